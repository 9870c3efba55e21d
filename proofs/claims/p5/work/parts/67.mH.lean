def ow_X12_isLeap : List Cond := []
def pw_X12_isLeap : List Cond := Cond.code yX12_isLeap cX12_isLeap 1 (some .boolean) :: (ow_X12_isLeap)
set_option maxRecDepth 20000 in
theorem mo_X12_isLeap : ∀ w ∈ ow_X12_isLeap, w ∈ lw_tbl := by decide +kernel
set_option maxRecDepth 20000 in
theorem mc_X12_isLeap : Cond.code yX12_isLeap cX12_isLeap 1 (some .boolean) ∈ lw_tbl := by decide +kernel
theorem m_X12_isLeap : ∀ w ∈ pw_X12_isLeap, w ∈ lw_tbl := List.forall_mem_cons.mpr ⟨mc_X12_isLeap, mo_X12_isLeap⟩
theorem ko_X12_isLeap : ∀ w ∈ ow_X12_isLeap, goodWord w = true := by decide +kernel
theorem k_X12_isLeap : pw_X12_isLeap.all goodWord = true := List.all_eq_true.mpr (List.forall_mem_cons.mpr ⟨by decide +kernel, ko_X12_isLeap⟩)
set_option maxHeartbeats 400000 in
set_option maxRecDepth 100000 in
theorem c_X12_isLeap (l : Launch) (D : va_G) (cI cD cJ : ClassId) (sz : Nat) (p1 : Int32) : Met l yX12_isLeap pw_X12_isLeap ({ frames := 0, cells := 0, slots := 0, locals := 0 }) (va_Pc [.int p1] (fun U => va_P D vwCl [] U.heap ∧ va_K D vwCl (ty3 cI cD cJ) U)) (va_Qi (fun (r : Int32) (u : Unit) => (r.toInt = 0 ∨ r.toInt = 1)) (fun _ _ => True) (fun _ => False)) 0 0 (fun _ => False) := by
  refine Met.ofW (cc := cX12_isLeap) (maxL := 1) (ret := (some .boolean)) (by decide +kernel) rfl ?_
  intro p e s m args below meth c s₁ B hml hv
  obtain ⟨rfl, hP, hK⟩ := hv
  have hx := B.exec
  have hb := B.bytes
  have hr := B.returns
  have hts := atoms_spec (ws := pw_X12_isLeap) B.pre
  have hown : s.vm.findClass RX12 = some m.cls := findClass_of_methodNamed B.named
  have hlocks := B.notSynchronized
  have hS : va_S (fun _ => False) s.heap s.heap [] := va_S.rf
  have hw : ∀ (k : Nat) (w : Cond), ow_X12_isLeap[k]? = some w → w.before _ s = true := fun k w h => hts w (List.mem_cons_of_mem _ (have h9 := List.mem_of_getElem? h; h9))
  have n_0 : ((0 : Int32)).toInt = 0 := by decide
  have n_1 : ((1 : Int32)).toInt = 1 := by decide
  have n_100 : ((100 : Int32)).toInt = 100 := by decide
  have n_4 : ((4 : Int32)).toInt = 4 := by decide
  have n_400 : ((400 : Int32)).toInt = 400 := by decide
  have hl := lv_entry ([.int p1]) (n := 1) (Nat.le_of_ble_eq_true rfl)
  rw [lg_entry_eq]
  generalize (lg_sl ([.int p1]) ++ List.replicate (1 - (lg_sl ([.int p1])).length) Slot.unset).toArray = ls at hl ⊢
  have hl : lv_has ls 1 [(0, .int p1)] := hl
  have b_p1 := ti_b p1
  refine zz_cap (fun Z hZ1 hZ2 => ?_)
  refine lv_iload_n hx hb dX12_isLeap_0 rfl (lv_at hl 0 rfl) ?_
  refine lv_iconst (v := 4) hx hb dX12_isLeap_1 (by decide) ?_
  refine lv_irem hx hb dX12_isLeap_2 (by decide) ?_
  refine lv_topi (fun x_1 ex_1 => ?_)
  have tx_1 := ti_rem ex_1 (by decide)
  rw [n_4] at tx_1
  try (have ux_1 := ti_remE ex_1 (by decide) (by omega); rw [n_4] at ux_1)
  refine lv_if_ne (tgt := 25) hx hb dX12_isLeap_3 (by decide) (fun c_2 => ?_) (fun c_2 => ?_)
  · have ic_2 : ¬ ((x_1 : Int32).toInt = (0 : Int32).toInt) := fun h9 => c_2 ((fa_eq x_1 0).mpr h9)
    refine lv_iconst (v := 0) hx hb dX12_isLeap_25 (by decide) ?_
    exact W.zret (v := 0) hx hb hr rfl (fun t ht hW => ⟨⟨0, (), rfl, (by (try dsimp only); first | omega | assumption), trivial⟩, hS.F ht⟩) hS.2.2 dX12_isLeap_26
  · have ic_2 : (x_1 : Int32).toInt = (0 : Int32).toInt := (fa_eq x_1 0).mp c_2
    refine lv_iload_n hx hb dX12_isLeap_6 rfl (lv_at hl 0 rfl) ?_
    refine lv_bipush (v := 100) hx hb dX12_isLeap_7 (by decide) ?_
    refine lv_irem hx hb dX12_isLeap_9 (by decide) ?_
    refine lv_topi (fun x_3 ex_3 => ?_)
    have tx_3 := ti_rem ex_3 (by decide)
    rw [n_100] at tx_3
    try (have ux_3 := ti_remE ex_3 (by decide) (by omega); rw [n_100] at ux_3)
    have K_21 : ∀ (H : Heap) (locs : List Loc) (ls : Array Slot), va_P D vwCl [] H → va_S (fun _ => False) s.heap H locs → lv_has ls 1 [] → Z 0 0 H locs (F0 m 21 ls []) := by
      intro  H locs ls  hP hS hl
      refine hZ2 ?_
      refine lv_iconst (v := 1) hx hb dX12_isLeap_21 (by decide) ?_
      refine lv_goto (tgt := 26) hx hb dX12_isLeap_22 (by decide) ?_
      exact W.zret (v := 1) hx hb hr rfl (fun t ht hW => ⟨⟨1, (), rfl, (by (try dsimp only); first | omega | assumption), trivial⟩, hS.F ht⟩) hS.2.2 dX12_isLeap_26
    refine lv_if_ne (tgt := 21) hx hb dX12_isLeap_10 (by decide) (fun c_4 => ?_) (fun c_4 => ?_)
    · have ic_4 : ¬ ((x_3 : Int32).toInt = (0 : Int32).toInt) := fun h9 => c_4 ((fa_eq x_3 0).mpr h9)
      exact hZ1 (K_21  _ _ _ hP hS (lv_sub hl [] rfl))
    · have ic_4 : (x_3 : Int32).toInt = (0 : Int32).toInt := (fa_eq x_3 0).mp c_4
      refine lv_iload_n hx hb dX12_isLeap_13 rfl (lv_at hl 0 rfl) ?_
      refine lv_sipush (v := 400) hx hb dX12_isLeap_14 (by decide) ?_
      refine lv_irem hx hb dX12_isLeap_17 (by decide) ?_
      refine lv_topi (fun x_5 ex_5 => ?_)
      have tx_5 := ti_rem ex_5 (by decide)
      rw [n_400] at tx_5
      try (have ux_5 := ti_remE ex_5 (by decide) (by omega); rw [n_400] at ux_5)
      refine lv_if_ne (tgt := 25) hx hb dX12_isLeap_18 (by decide) (fun c_6 => ?_) (fun c_6 => ?_)
      · have ic_6 : ¬ ((x_5 : Int32).toInt = (0 : Int32).toInt) := fun h9 => c_6 ((fa_eq x_5 0).mpr h9)
        refine lv_iconst (v := 0) hx hb dX12_isLeap_25 (by decide) ?_
        exact W.zret (v := 0) hx hb hr rfl (fun t ht hW => ⟨⟨0, (), rfl, (by (try dsimp only); first | omega | assumption), trivial⟩, hS.F ht⟩) hS.2.2 dX12_isLeap_26
      · have ic_6 : (x_5 : Int32).toInt = (0 : Int32).toInt := (fa_eq x_5 0).mp c_6
        exact hZ1 (K_21  _ _ _ hP hS (lv_sub hl [] rfl))

def ow_X12_daysOf : List Cond := [Cond.methodLink RX12 352 yX12_isLeap, Cond.static yX12_isLeap, Cond.initialized RX12]
def pw_X12_daysOf : List Cond := Cond.code yX12_daysOf cX12_daysOf 2 (some .int) :: (ow_X12_daysOf ++ (pw_X12_isLeap))
set_option maxRecDepth 20000 in
theorem mo_X12_daysOf : ∀ w ∈ ow_X12_daysOf, w ∈ lw_tbl := by decide +kernel
set_option maxRecDepth 20000 in
theorem mc_X12_daysOf : Cond.code yX12_daysOf cX12_daysOf 2 (some .int) ∈ lw_tbl := by decide +kernel
theorem m_X12_daysOf : ∀ w ∈ pw_X12_daysOf, w ∈ lw_tbl := List.forall_mem_cons.mpr ⟨mc_X12_daysOf, (List.forall_mem_append.mpr ⟨mo_X12_daysOf, m_X12_isLeap⟩)⟩
theorem ko_X12_daysOf : ∀ w ∈ ow_X12_daysOf, goodWord w = true := by decide +kernel
theorem k_X12_daysOf : pw_X12_daysOf.all goodWord = true := List.all_eq_true.mpr (List.forall_mem_cons.mpr ⟨by decide +kernel, (List.forall_mem_append.mpr ⟨ko_X12_daysOf, (List.all_eq_true.mp k_X12_isLeap)⟩)⟩)
set_option maxHeartbeats 400000 in
set_option maxRecDepth 100000 in
theorem c_X12_daysOf (l : Launch) (D : va_G) (cI cD cJ : ClassId) (sz : Nat) (p1 : Int32) (p2 : Int32) : Met l yX12_daysOf pw_X12_daysOf ({ frames := 1, cells := 0, slots := 0, locals := 20 }) (va_Pc [.int p1, .int p2] (fun U => va_P D vwCl [] U.heap ∧ va_K D vwCl (ty3 cI cD cJ) U)) (va_Qi (fun (r : Int32) (u : Unit) => (28 ≤ r.toInt ∧ r.toInt ≤ 31)) (fun _ _ => True) (fun _ => False)) 0 0 (fun _ => False) := by
  refine Met.ofW (cc := cX12_daysOf) (maxL := 2) (ret := (some .int)) (by decide +kernel) rfl ?_
  intro p e s m args below meth c s₁ B hml hv
  obtain ⟨rfl, hP, hK⟩ := hv
  have hx := B.exec
  have hb := B.bytes
  have hr := B.returns
  have hts := atoms_spec (ws := pw_X12_daysOf) B.pre
  have hown : s.vm.findClass RX12 = some m.cls := findClass_of_methodNamed B.named
  have hlocks := B.notSynchronized
  have hS : va_S (fun _ => False) s.heap s.heap [] := va_S.rf
  have hw : ∀ (k : Nat) (w : Cond), ow_X12_daysOf[k]? = some w → w.before _ s = true := fun k w h => hts w (List.mem_cons_of_mem _ (have h9 := List.mem_of_getElem? h; List.mem_append_left _ h9))
  have i_X12_isLeap : ∀ w ∈ pw_X12_isLeap, w ∈ pw_X12_daysOf := fun w h9 => List.mem_cons_of_mem _ (List.mem_append_right _ (h9))
  have n_0 : ((0 : Int32)).toInt = 0 := by decide
  have n_11 : ((11 : Int32)).toInt = 11 := by decide
  have n_2 : ((2 : Int32)).toInt = 2 := by decide
  have n_28 : ((28 : Int32)).toInt = 28 := by decide
  have n_29 : ((29 : Int32)).toInt = 29 := by decide
  have n_30 : ((30 : Int32)).toInt = 30 := by decide
  have n_31 : ((31 : Int32)).toInt = 31 := by decide
  have n_4 : ((4 : Int32)).toInt = 4 := by decide
  have n_6 : ((6 : Int32)).toInt = 6 := by decide
  have n_9 : ((9 : Int32)).toInt = 9 := by decide
  have hl := lv_entry ([.int p1, .int p2]) (n := 2) (Nat.le_of_ble_eq_true rfl)
  rw [lg_entry_eq]
  generalize (lg_sl ([.int p1, .int p2]) ++ List.replicate (2 - (lg_sl ([.int p1, .int p2])).length) Slot.unset).toArray = ls at hl ⊢
  have hl : lv_has ls 2 [(0, .int p1), (1, .int p2)] := hl
  have b_p1 := ti_b p1
  have b_p2 := ti_b p2
  refine zz_cap (fun Z hZ1 hZ2 => ?_)
  refine lv_iload_n hx hb dX12_daysOf_0 rfl (lv_at hl 1 rfl) ?_
  refine lv_iconst (v := 2) hx hb dX12_daysOf_1 (by decide) ?_
  refine lv_icmp_ne (tgt := 22) hx hb dX12_daysOf_2 (by decide) (fun c_1 => ?_) (fun c_1 => ?_)
  · have ic_1 : ¬ ((p2 : Int32).toInt = (2 : Int32).toInt) := fun h9 => c_1 ((fa_eq p2 2).mpr h9)
    refine lv_iload_n hx hb dX12_daysOf_22 rfl (lv_at hl 1 rfl) ?_
    refine lv_iconst (v := 4) hx hb dX12_daysOf_23 (by decide) ?_
    have K_45 : ∀ (H : Heap) (locs : List Loc) (ls : Array Slot), va_P D vwCl [] H → va_S (fun _ => False) s.heap H locs → lv_has ls 2 [] → Z 0 0 H locs (F0 m 45 ls []) := by
      intro  H locs ls  hP hS hl
      refine hZ2 ?_
      refine lv_bipush (v := 30) hx hb dX12_daysOf_45 (by decide) ?_
      refine lv_goto (tgt := 52) hx hb dX12_daysOf_47 (by decide) ?_
      exact W.iret (v := 30) hx hb hr (fun t ht hW => ⟨⟨30, (), rfl, (by (try dsimp only); first | omega | assumption), trivial⟩, hS.F ht⟩) hS.2.2 dX12_daysOf_52
    refine lv_icmp_eq (tgt := 45) hx hb dX12_daysOf_24 (by decide) (fun c_2 => ?_) (fun c_2 => ?_)
    · have ic_2 : (p2 : Int32).toInt = (4 : Int32).toInt := (fa_eq p2 4).mp c_2
      exact hZ1 (K_45  _ _ _ hP hS (lv_sub hl [] rfl))
    · have ic_2 : ¬ ((p2 : Int32).toInt = (4 : Int32).toInt) := fun h9 => c_2 ((fa_eq p2 4).mpr h9)
      refine lv_iload_n hx hb dX12_daysOf_27 rfl (lv_at hl 1 rfl) ?_
      refine lv_bipush (v := 6) hx hb dX12_daysOf_28 (by decide) ?_
      refine lv_icmp_eq (tgt := 45) hx hb dX12_daysOf_30 (by decide) (fun c_3 => ?_) (fun c_3 => ?_)
      · have ic_3 : (p2 : Int32).toInt = (6 : Int32).toInt := (fa_eq p2 6).mp c_3
        exact hZ1 (K_45  _ _ _ hP hS (lv_sub hl [] rfl))
      · have ic_3 : ¬ ((p2 : Int32).toInt = (6 : Int32).toInt) := fun h9 => c_3 ((fa_eq p2 6).mpr h9)
        refine lv_iload_n hx hb dX12_daysOf_33 rfl (lv_at hl 1 rfl) ?_
        refine lv_bipush (v := 9) hx hb dX12_daysOf_34 (by decide) ?_
        refine lv_icmp_eq (tgt := 45) hx hb dX12_daysOf_36 (by decide) (fun c_4 => ?_) (fun c_4 => ?_)
        · have ic_4 : (p2 : Int32).toInt = (9 : Int32).toInt := (fa_eq p2 9).mp c_4
          exact hZ1 (K_45  _ _ _ hP hS (lv_sub hl [] rfl))
        · have ic_4 : ¬ ((p2 : Int32).toInt = (9 : Int32).toInt) := fun h9 => c_4 ((fa_eq p2 9).mpr h9)
          refine lv_iload_n hx hb dX12_daysOf_39 rfl (lv_at hl 1 rfl) ?_
          refine lv_bipush (v := 11) hx hb dX12_daysOf_40 (by decide) ?_
          refine lv_icmp_ne (tgt := 50) hx hb dX12_daysOf_42 (by decide) (fun c_5 => ?_) (fun c_5 => ?_)
          · have ic_5 : ¬ ((p2 : Int32).toInt = (11 : Int32).toInt) := fun h9 => c_5 ((fa_eq p2 11).mpr h9)
            refine lv_bipush (v := 31) hx hb dX12_daysOf_50 (by decide) ?_
            exact W.iret (v := 31) hx hb hr (fun t ht hW => ⟨⟨31, (), rfl, (by (try dsimp only); first | omega | assumption), trivial⟩, hS.F ht⟩) hS.2.2 dX12_daysOf_52
          · have ic_5 : (p2 : Int32).toInt = (11 : Int32).toInt := (fa_eq p2 11).mp c_5
            exact hZ1 (K_45  _ _ _ hP hS (lv_sub hl [] rfl))
  · have ic_1 : (p2 : Int32).toInt = (2 : Int32).toInt := (fa_eq p2 2).mp c_1
    refine lv_iload_n hx hb dX12_daysOf_5 rfl (lv_at hl 0 rfl) ?_
    have hPc := hP.sub (ws' := []) [] rfl
    refine va_calli (va_runS (As := [.int p1]) (rest := []) ⟨hx, hb, hml, hown, hts⟩ (c_X12_isLeap l D cI cD cJ s.heap.size p1) (va_cwS 1 hts (goodIn_app (goodIn_r _ [1, 2, 3] rfl (by decide +kernel)) (goodIn_sub i_X12_isLeap k_X12_isLeap)) rfl rfl rfl (by decide +kernel) ⟨Nat.le_of_ble_eq_true rfl, Nat.le_of_ble_eq_true rfl⟩) ⟨fun a U g mk q => by obtain ⟨q0, qP, qK⟩ := q; exact ⟨q0, qP, va_K.moved (u := U) (U := U.calling g mk a) (Vm.Alike.refl U.vm) qK⟩, fun U hU hW => ⟨rfl, by rw [hU]; exact hPc, va_K.moved hW.alike hK⟩⟩ rfl rfl hl.1 rfl (lv_room (Nat.le_of_ble_eq_true rfl)) dX12_daysOf_6 ⟨Nat.le_of_ble_eq_true rfl, Nat.le_of_ble_eq_true rfl⟩) hS (fun q _ h => h.elim) (fun q h => h.elim) (fun x_6 u t H1 locs ht hvm w_7 hB hz1 hk1 hS => ?_)
    have hP : va_P D vwCl [] H1 := hP.kept (fun k9 q9 h9 => hk1 q9.1 (vx_lt hP h9) (fun h => h))
    generalize H1 = H at hP hS ⊢
    try dsimp only at w_7
    have b_x_6 := ti_b x_6
    refine lv_if_eq (tgt := 17) hx hb dX12_daysOf_9 (by decide) (fun c_8 => ?_) (fun c_8 => ?_)
    · have ic_8 : (x_6 : Int32).toInt = (0 : Int32).toInt := (fa_eq x_6 0).mp c_8
      refine lv_bipush (v := 28) hx hb dX12_daysOf_17 (by decide) ?_
      refine lv_goto (tgt := 52) hx hb dX12_daysOf_19 (by decide) ?_
      exact W.iret (v := 28) hx hb hr (fun t ht hW => ⟨⟨28, (), rfl, (by (try dsimp only); first | omega | assumption), trivial⟩, hS.F ht⟩) hS.2.2 dX12_daysOf_52
    · have ic_8 : ¬ ((x_6 : Int32).toInt = (0 : Int32).toInt) := fun h9 => c_8 ((fa_eq x_6 0).mpr h9)
      refine lv_bipush (v := 29) hx hb dX12_daysOf_12 (by decide) ?_
      refine lv_goto (tgt := 52) hx hb dX12_daysOf_14 (by decide) ?_
      exact W.iret (v := 29) hx hb hr (fun t ht hW => ⟨⟨29, (), rfl, (by (try dsimp only); first | omega | assumption), trivial⟩, hS.F ht⟩) hS.2.2 dX12_daysOf_52

def ow_X12_monthName : List Cond := [Cond.constantLong RX12 377 (4928454654504887666), Cond.constantLong RX12 355 (20936275320205945), Cond.constantLong RX12 357 (5072568799037846137), Cond.constantLong RX12 359 (332347368296), Cond.constantLong RX12 361 (281059420524), Cond.constantLong RX12 363 (5071225), Cond.constantLong RX12 365 (1249209957), Cond.constantLong RX12 367 (1249209465), Cond.constantLong RX12 369 (71972502729588), Cond.constantLong RX12 371 (6009332923015979621), Cond.constantLong RX12 373 (22345874896217458), Cond.constantLong RX12 375 (5651866235372201330)]
def pw_X12_monthName : List Cond := Cond.code yX12_monthName cX12_monthName 1 (some .long) :: (ow_X12_monthName)
set_option maxRecDepth 20000 in
theorem mo_X12_monthName : ∀ w ∈ ow_X12_monthName, w ∈ lw_tbl := by decide +kernel
set_option maxRecDepth 20000 in
theorem mc_X12_monthName : Cond.code yX12_monthName cX12_monthName 1 (some .long) ∈ lw_tbl := by decide +kernel
theorem m_X12_monthName : ∀ w ∈ pw_X12_monthName, w ∈ lw_tbl := List.forall_mem_cons.mpr ⟨mc_X12_monthName, mo_X12_monthName⟩
theorem ko_X12_monthName : ∀ w ∈ ow_X12_monthName, goodWord w = true := by decide +kernel
theorem k_X12_monthName : pw_X12_monthName.all goodWord = true := List.all_eq_true.mpr (List.forall_mem_cons.mpr ⟨by decide +kernel, ko_X12_monthName⟩)
set_option maxHeartbeats 400000 in
set_option maxRecDepth 100000 in
theorem c_X12_monthName (l : Launch) (D : va_G) (cI cD cJ : ClassId) (sz : Nat) (p1 : Int32) : Met l yX12_monthName pw_X12_monthName ({ frames := 0, cells := 0, slots := 0, locals := 0 }) (va_Pc [.int p1] (fun U => va_P D vwCl [] U.heap ∧ va_K D vwCl (ty3 cI cD cJ) U)) (va_Ql (fun (r : Int64) (u : Unit) => True) (fun _ _ => True) (fun _ => False)) 0 0 (fun _ => False) := by
  refine Met.ofW (cc := cX12_monthName) (maxL := 1) (ret := (some .long)) (by decide +kernel) rfl ?_
  intro p e s m args below meth c s₁ B hml hv
  obtain ⟨rfl, hP, hK⟩ := hv
  have hx := B.exec
  have hb := B.bytes
  have hr := B.returns
  have hts := atoms_spec (ws := pw_X12_monthName) B.pre
  have hown : s.vm.findClass RX12 = some m.cls := findClass_of_methodNamed B.named
  have hlocks := B.notSynchronized
  have hS : va_S (fun _ => False) s.heap s.heap [] := va_S.rf
  have hw : ∀ (k : Nat) (w : Cond), ow_X12_monthName[k]? = some w → w.before _ s = true := fun k w h => hts w (List.mem_cons_of_mem _ (have h9 := List.mem_of_getElem? h; h9))
  have nl_1249209465 : ((1249209465 : Int64)).toInt = 1249209465 := by decide
  have nl_1249209957 : ((1249209957 : Int64)).toInt = 1249209957 := by decide
  have nl_20936275320205945 : ((20936275320205945 : Int64)).toInt = 20936275320205945 := by decide
  have nl_22345874896217458 : ((22345874896217458 : Int64)).toInt = 22345874896217458 := by decide
  have nl_281059420524 : ((281059420524 : Int64)).toInt = 281059420524 := by decide
  have nl_332347368296 : ((332347368296 : Int64)).toInt = 332347368296 := by decide
  have nl_4928454654504887666 : ((4928454654504887666 : Int64)).toInt = 4928454654504887666 := by decide
  have nl_5071225 : ((5071225 : Int64)).toInt = 5071225 := by decide
  have nl_5072568799037846137 : ((5072568799037846137 : Int64)).toInt = 5072568799037846137 := by decide
  have nl_5651866235372201330 : ((5651866235372201330 : Int64)).toInt = 5651866235372201330 := by decide
  have nl_6009332923015979621 : ((6009332923015979621 : Int64)).toInt = 6009332923015979621 := by decide
  have nl_71972502729588 : ((71972502729588 : Int64)).toInt = 71972502729588 := by decide
  have hl := lv_entry ([.int p1]) (n := 1) (Nat.le_of_ble_eq_true rfl)
  rw [lg_entry_eq]
  generalize (lg_sl ([.int p1]) ++ List.replicate (1 - (lg_sl ([.int p1])).length) Slot.unset).toArray = ls at hl ⊢
  have hl : lv_has ls 1 [(0, .int p1)] := hl
  have b_p1 := ti_b p1
  refine lv_iload_n hx hb dX12_monthName_0 rfl (lv_at hl 0 rfl) ?_
  rcases (show (p1 : Int32).toInt < 1 ∨ 11 < (p1 : Int32).toInt ∨ (p1 : Int32).toInt = 1 ∨ (p1 : Int32).toInt = 2 ∨ (p1 : Int32).toInt = 3 ∨ (p1 : Int32).toInt = 4 ∨ (p1 : Int32).toInt = 5 ∨ (p1 : Int32).toInt = 6 ∨ (p1 : Int32).toInt = 7 ∨ (p1 : Int32).toInt = 8 ∨ (p1 : Int32).toInt = 9 ∨ (p1 : Int32).toInt = 10 ∨ (p1 : Int32).toInt = 11 by omega) with v_1 | v_1 | v_1 | v_1 | v_1 | v_1 | v_1 | v_1 | v_1 | v_1 | v_1 | v_1 | v_1
  · refine lv_tableOut (tgt := 104) hx hb dX12_monthName_1 (Or.inl v_1) (by decide) ?_
    refine lv_ldc2 (v := 4928454654504887666) hx hb hown (hw 0 (.constantLong RX12 377 (4928454654504887666)) rfl) dX12_monthName_104 ?_
    exact W.lret (v := 4928454654504887666) hx hb hr (fun t ht hW => ⟨⟨4928454654504887666, (), rfl, trivial, trivial⟩, hS.F ht⟩) hS.2.2 dX12_monthName_107
  · refine lv_tableOut (tgt := 104) hx hb dX12_monthName_1 (Or.inr v_1) (by decide) ?_
    refine lv_ldc2 (v := 4928454654504887666) hx hb hown (hw 0 (.constantLong RX12 377 (4928454654504887666)) rfl) dX12_monthName_104 ?_
    exact W.lret (v := 4928454654504887666) hx hb hr (fun t ht hW => ⟨⟨4928454654504887666, (), rfl, trivial, trivial⟩, hS.F ht⟩) hS.2.2 dX12_monthName_107
  · refine lv_tableIn (off := 59) (tgt := 60) hx hb dX12_monthName_1 (by omega) (by omega) (by rw [v_1]; rfl) (by decide) ?_
    refine lv_ldc2 (v := 20936275320205945) hx hb hown (hw 1 (.constantLong RX12 355 (20936275320205945)) rfl) dX12_monthName_60 ?_
    exact W.lret (v := 20936275320205945) hx hb hr (fun t ht hW => ⟨⟨20936275320205945, (), rfl, trivial, trivial⟩, hS.F ht⟩) hS.2.2 dX12_monthName_63
  · refine lv_tableIn (off := 63) (tgt := 64) hx hb dX12_monthName_1 (by omega) (by omega) (by rw [v_1]; rfl) (by decide) ?_
    refine lv_ldc2 (v := 5072568799037846137) hx hb hown (hw 2 (.constantLong RX12 357 (5072568799037846137)) rfl) dX12_monthName_64 ?_
    exact W.lret (v := 5072568799037846137) hx hb hr (fun t ht hW => ⟨⟨5072568799037846137, (), rfl, trivial, trivial⟩, hS.F ht⟩) hS.2.2 dX12_monthName_67
  · refine lv_tableIn (off := 67) (tgt := 68) hx hb dX12_monthName_1 (by omega) (by omega) (by rw [v_1]; rfl) (by decide) ?_
    refine lv_ldc2 (v := 332347368296) hx hb hown (hw 3 (.constantLong RX12 359 (332347368296)) rfl) dX12_monthName_68 ?_
    exact W.lret (v := 332347368296) hx hb hr (fun t ht hW => ⟨⟨332347368296, (), rfl, trivial, trivial⟩, hS.F ht⟩) hS.2.2 dX12_monthName_71
  · refine lv_tableIn (off := 71) (tgt := 72) hx hb dX12_monthName_1 (by omega) (by omega) (by rw [v_1]; rfl) (by decide) ?_
    refine lv_ldc2 (v := 281059420524) hx hb hown (hw 4 (.constantLong RX12 361 (281059420524)) rfl) dX12_monthName_72 ?_
    exact W.lret (v := 281059420524) hx hb hr (fun t ht hW => ⟨⟨281059420524, (), rfl, trivial, trivial⟩, hS.F ht⟩) hS.2.2 dX12_monthName_75
  · refine lv_tableIn (off := 75) (tgt := 76) hx hb dX12_monthName_1 (by omega) (by omega) (by rw [v_1]; rfl) (by decide) ?_
    refine lv_ldc2 (v := 5071225) hx hb hown (hw 5 (.constantLong RX12 363 (5071225)) rfl) dX12_monthName_76 ?_
    exact W.lret (v := 5071225) hx hb hr (fun t ht hW => ⟨⟨5071225, (), rfl, trivial, trivial⟩, hS.F ht⟩) hS.2.2 dX12_monthName_79
  · refine lv_tableIn (off := 79) (tgt := 80) hx hb dX12_monthName_1 (by omega) (by omega) (by rw [v_1]; rfl) (by decide) ?_
    refine lv_ldc2 (v := 1249209957) hx hb hown (hw 6 (.constantLong RX12 365 (1249209957)) rfl) dX12_monthName_80 ?_
    exact W.lret (v := 1249209957) hx hb hr (fun t ht hW => ⟨⟨1249209957, (), rfl, trivial, trivial⟩, hS.F ht⟩) hS.2.2 dX12_monthName_83
  · refine lv_tableIn (off := 83) (tgt := 84) hx hb dX12_monthName_1 (by omega) (by omega) (by rw [v_1]; rfl) (by decide) ?_
    refine lv_ldc2 (v := 1249209465) hx hb hown (hw 7 (.constantLong RX12 367 (1249209465)) rfl) dX12_monthName_84 ?_
    exact W.lret (v := 1249209465) hx hb hr (fun t ht hW => ⟨⟨1249209465, (), rfl, trivial, trivial⟩, hS.F ht⟩) hS.2.2 dX12_monthName_87
  · refine lv_tableIn (off := 87) (tgt := 88) hx hb dX12_monthName_1 (by omega) (by omega) (by rw [v_1]; rfl) (by decide) ?_
    refine lv_ldc2 (v := 71972502729588) hx hb hown (hw 8 (.constantLong RX12 369 (71972502729588)) rfl) dX12_monthName_88 ?_
    exact W.lret (v := 71972502729588) hx hb hr (fun t ht hW => ⟨⟨71972502729588, (), rfl, trivial, trivial⟩, hS.F ht⟩) hS.2.2 dX12_monthName_91
  · refine lv_tableIn (off := 91) (tgt := 92) hx hb dX12_monthName_1 (by omega) (by omega) (by rw [v_1]; rfl) (by decide) ?_
    refine lv_ldc2 (v := 6009332923015979621) hx hb hown (hw 9 (.constantLong RX12 371 (6009332923015979621)) rfl) dX12_monthName_92 ?_
    exact W.lret (v := 6009332923015979621) hx hb hr (fun t ht hW => ⟨⟨6009332923015979621, (), rfl, trivial, trivial⟩, hS.F ht⟩) hS.2.2 dX12_monthName_95
  · refine lv_tableIn (off := 95) (tgt := 96) hx hb dX12_monthName_1 (by omega) (by omega) (by rw [v_1]; rfl) (by decide) ?_
    refine lv_ldc2 (v := 22345874896217458) hx hb hown (hw 10 (.constantLong RX12 373 (22345874896217458)) rfl) dX12_monthName_96 ?_
    exact W.lret (v := 22345874896217458) hx hb hr (fun t ht hW => ⟨⟨22345874896217458, (), rfl, trivial, trivial⟩, hS.F ht⟩) hS.2.2 dX12_monthName_99
  · refine lv_tableIn (off := 99) (tgt := 100) hx hb dX12_monthName_1 (by omega) (by omega) (by rw [v_1]; rfl) (by decide) ?_
    refine lv_ldc2 (v := 5651866235372201330) hx hb hown (hw 11 (.constantLong RX12 375 (5651866235372201330)) rfl) dX12_monthName_100 ?_
    exact W.lret (v := 5651866235372201330) hx hb hr (fun t ht hW => ⟨⟨5651866235372201330, (), rfl, trivial, trivial⟩, hS.F ht⟩) hS.2.2 dX12_monthName_103

def ow_X12_dayName : List Cond := [Cond.constantLong RX12 391 (77457208402297), Cond.constantLong RX12 379 (6008211425668129145), Cond.constantLong RX12 381 (91763828351353), Cond.constantLong RX12 383 (85140988780921), Cond.constantLong RX12 385 (23772976631800185), Cond.constantLong RX12 387 (6297550079258748001), Cond.constantLong RX12 389 (6082240431186534777)]
def pw_X12_dayName : List Cond := Cond.code yX12_dayName cX12_dayName 1 (some .long) :: (ow_X12_dayName)
set_option maxRecDepth 20000 in
theorem mo_X12_dayName : ∀ w ∈ ow_X12_dayName, w ∈ lw_tbl := by decide +kernel
set_option maxRecDepth 20000 in
theorem mc_X12_dayName : Cond.code yX12_dayName cX12_dayName 1 (some .long) ∈ lw_tbl := by decide +kernel
theorem m_X12_dayName : ∀ w ∈ pw_X12_dayName, w ∈ lw_tbl := List.forall_mem_cons.mpr ⟨mc_X12_dayName, mo_X12_dayName⟩
theorem ko_X12_dayName : ∀ w ∈ ow_X12_dayName, goodWord w = true := by decide +kernel
theorem k_X12_dayName : pw_X12_dayName.all goodWord = true := List.all_eq_true.mpr (List.forall_mem_cons.mpr ⟨by decide +kernel, ko_X12_dayName⟩)
set_option maxHeartbeats 400000 in
set_option maxRecDepth 100000 in
theorem c_X12_dayName (l : Launch) (D : va_G) (cI cD cJ : ClassId) (sz : Nat) (p1 : Int32) : Met l yX12_dayName pw_X12_dayName ({ frames := 0, cells := 0, slots := 0, locals := 0 }) (va_Pc [.int p1] (fun U => va_P D vwCl [] U.heap ∧ va_K D vwCl (ty3 cI cD cJ) U)) (va_Ql (fun (r : Int64) (u : Unit) => True) (fun _ _ => True) (fun _ => False)) 0 0 (fun _ => False) := by
  refine Met.ofW (cc := cX12_dayName) (maxL := 1) (ret := (some .long)) (by decide +kernel) rfl ?_
  intro p e s m args below meth c s₁ B hml hv
  obtain ⟨rfl, hP, hK⟩ := hv
  have hx := B.exec
  have hb := B.bytes
  have hr := B.returns
  have hts := atoms_spec (ws := pw_X12_dayName) B.pre
  have hown : s.vm.findClass RX12 = some m.cls := findClass_of_methodNamed B.named
  have hlocks := B.notSynchronized
  have hS : va_S (fun _ => False) s.heap s.heap [] := va_S.rf
  have hw : ∀ (k : Nat) (w : Cond), ow_X12_dayName[k]? = some w → w.before _ s = true := fun k w h => hts w (List.mem_cons_of_mem _ (have h9 := List.mem_of_getElem? h; h9))
  have nl_23772976631800185 : ((23772976631800185 : Int64)).toInt = 23772976631800185 := by decide
  have nl_6008211425668129145 : ((6008211425668129145 : Int64)).toInt = 6008211425668129145 := by decide
  have nl_6082240431186534777 : ((6082240431186534777 : Int64)).toInt = 6082240431186534777 := by decide
  have nl_6297550079258748001 : ((6297550079258748001 : Int64)).toInt = 6297550079258748001 := by decide
  have nl_77457208402297 : ((77457208402297 : Int64)).toInt = 77457208402297 := by decide
  have nl_85140988780921 : ((85140988780921 : Int64)).toInt = 85140988780921 := by decide
  have nl_91763828351353 : ((91763828351353 : Int64)).toInt = 91763828351353 := by decide
  have hl := lv_entry ([.int p1]) (n := 1) (Nat.le_of_ble_eq_true rfl)
  rw [lg_entry_eq]
  generalize (lg_sl ([.int p1]) ++ List.replicate (1 - (lg_sl ([.int p1])).length) Slot.unset).toArray = ls at hl ⊢
  have hl : lv_has ls 1 [(0, .int p1)] := hl
  have b_p1 := ti_b p1
  refine lv_iload_n hx hb dX12_dayName_0 rfl (lv_at hl 0 rfl) ?_
  rcases (show (p1 : Int32).toInt < 0 ∨ 5 < (p1 : Int32).toInt ∨ (p1 : Int32).toInt = 0 ∨ (p1 : Int32).toInt = 1 ∨ (p1 : Int32).toInt = 2 ∨ (p1 : Int32).toInt = 3 ∨ (p1 : Int32).toInt = 4 ∨ (p1 : Int32).toInt = 5 by omega) with v_1 | v_1 | v_1 | v_1 | v_1 | v_1 | v_1 | v_1
  · refine lv_tableOut (tgt := 64) hx hb dX12_dayName_1 (Or.inl v_1) (by decide) ?_
    refine lv_ldc2 (v := 77457208402297) hx hb hown (hw 0 (.constantLong RX12 391 (77457208402297)) rfl) dX12_dayName_64 ?_
    exact W.lret (v := 77457208402297) hx hb hr (fun t ht hW => ⟨⟨77457208402297, (), rfl, trivial, trivial⟩, hS.F ht⟩) hS.2.2 dX12_dayName_67
  · refine lv_tableOut (tgt := 64) hx hb dX12_dayName_1 (Or.inr v_1) (by decide) ?_
    refine lv_ldc2 (v := 77457208402297) hx hb hown (hw 0 (.constantLong RX12 391 (77457208402297)) rfl) dX12_dayName_64 ?_
    exact W.lret (v := 77457208402297) hx hb hr (fun t ht hW => ⟨⟨77457208402297, (), rfl, trivial, trivial⟩, hS.F ht⟩) hS.2.2 dX12_dayName_67
  · refine lv_tableIn (off := 39) (tgt := 40) hx hb dX12_dayName_1 (by omega) (by omega) (by rw [v_1]; rfl) (by decide) ?_
    refine lv_ldc2 (v := 6008211425668129145) hx hb hown (hw 1 (.constantLong RX12 379 (6008211425668129145)) rfl) dX12_dayName_40 ?_
    exact W.lret (v := 6008211425668129145) hx hb hr (fun t ht hW => ⟨⟨6008211425668129145, (), rfl, trivial, trivial⟩, hS.F ht⟩) hS.2.2 dX12_dayName_43
  · refine lv_tableIn (off := 43) (tgt := 44) hx hb dX12_dayName_1 (by omega) (by omega) (by rw [v_1]; rfl) (by decide) ?_
    refine lv_ldc2 (v := 91763828351353) hx hb hown (hw 2 (.constantLong RX12 381 (91763828351353)) rfl) dX12_dayName_44 ?_
    exact W.lret (v := 91763828351353) hx hb hr (fun t ht hW => ⟨⟨91763828351353, (), rfl, trivial, trivial⟩, hS.F ht⟩) hS.2.2 dX12_dayName_47
  · refine lv_tableIn (off := 47) (tgt := 48) hx hb dX12_dayName_1 (by omega) (by omega) (by rw [v_1]; rfl) (by decide) ?_
    refine lv_ldc2 (v := 85140988780921) hx hb hown (hw 3 (.constantLong RX12 383 (85140988780921)) rfl) dX12_dayName_48 ?_
    exact W.lret (v := 85140988780921) hx hb hr (fun t ht hW => ⟨⟨85140988780921, (), rfl, trivial, trivial⟩, hS.F ht⟩) hS.2.2 dX12_dayName_51
  · refine lv_tableIn (off := 51) (tgt := 52) hx hb dX12_dayName_1 (by omega) (by omega) (by rw [v_1]; rfl) (by decide) ?_
    refine lv_ldc2 (v := 23772976631800185) hx hb hown (hw 4 (.constantLong RX12 385 (23772976631800185)) rfl) dX12_dayName_52 ?_
    exact W.lret (v := 23772976631800185) hx hb hr (fun t ht hW => ⟨⟨23772976631800185, (), rfl, trivial, trivial⟩, hS.F ht⟩) hS.2.2 dX12_dayName_55
  · refine lv_tableIn (off := 55) (tgt := 56) hx hb dX12_dayName_1 (by omega) (by omega) (by rw [v_1]; rfl) (by decide) ?_
    refine lv_ldc2 (v := 6297550079258748001) hx hb hown (hw 5 (.constantLong RX12 387 (6297550079258748001)) rfl) dX12_dayName_56 ?_
    exact W.lret (v := 6297550079258748001) hx hb hr (fun t ht hW => ⟨⟨6297550079258748001, (), rfl, trivial, trivial⟩, hS.F ht⟩) hS.2.2 dX12_dayName_59
  · refine lv_tableIn (off := 59) (tgt := 60) hx hb dX12_dayName_1 (by omega) (by omega) (by rw [v_1]; rfl) (by decide) ?_
    refine lv_ldc2 (v := 6082240431186534777) hx hb hown (hw 6 (.constantLong RX12 389 (6082240431186534777)) rfl) dX12_dayName_60 ?_
    exact W.lret (v := 6082240431186534777) hx hb hr (fun t ht hW => ⟨⟨6082240431186534777, (), rfl, trivial, trivial⟩, hS.F ht⟩) hS.2.2 dX12_dayName_63

def ow_X12_writeName : List Cond := [Cond.constantLong RX12 163 (255), Cond.methodLink RX12 278 yX12_write, Cond.instanceMethod yX12_write, Cond.selects RX12 yX12_write yX12_write, Cond.initialized RX12]
def pw_X12_writeName : List Cond := Cond.code yX12_writeName cX12_writeName 7 none :: (ow_X12_writeName ++ (pw_X12_write))
set_option maxRecDepth 20000 in
theorem mo_X12_writeName : ∀ w ∈ ow_X12_writeName, w ∈ lw_tbl := by decide +kernel
set_option maxRecDepth 20000 in
theorem mc_X12_writeName : Cond.code yX12_writeName cX12_writeName 7 none ∈ lw_tbl := by decide +kernel
theorem m_X12_writeName : ∀ w ∈ pw_X12_writeName, w ∈ lw_tbl := List.forall_mem_cons.mpr ⟨mc_X12_writeName, (List.forall_mem_append.mpr ⟨mo_X12_writeName, m_X12_write⟩)⟩
theorem ko_X12_writeName : ∀ w ∈ ow_X12_writeName, goodWord w = true := by decide +kernel
theorem k_X12_writeName : pw_X12_writeName.all goodWord = true := List.all_eq_true.mpr (List.forall_mem_cons.mpr ⟨by decide +kernel, (List.forall_mem_append.mpr ⟨ko_X12_writeName, (List.all_eq_true.mp k_X12_write)⟩)⟩)
set_option maxHeartbeats 400000 in
set_option maxRecDepth 100000 in
theorem c_X12_writeName (l : Launch) (D : va_G) (cI cD cJ : ClassId) (sz : Nat) (h : Nat) (h_code : Int32) (h_taped : Int32) (h_tape : Nat) (h_size : Int32) (h_text : Nat) (h_value : UInt64) (h_out : Int32) (h_output : Nat) (h_illAt : Int32) (h_format : Nat) (h_sections : Int32) (h_items : Int32) (h_kind : Nat) (h_what : Nat) (h_of : Nat) (h_relation : Nat) (h_bound : Nat) (h_reads : Int32) (h_readSections : Int32) (h_readKind : Nat) (h_readWhat : Nat) (h_readOf : Nat) (h_place : Nat) (h_readRelation : Nat) (h_readBound : Nat) (h_stop : Int32) (h_meant : Nat) (h_row : Nat) (h_exact : Nat) (h_error : Nat) (h_bestError : Nat) (h_m : Int64) (h_e : Int32) (h_digits : Nat) (h_whole : Int32) (h_outputF : Nat → Int32) (p1 : Int64) (p2 : Int32) (iv_h_taped : 0 ≤ (h_taped : Int32).toInt ∧ (h_taped : Int32).toInt ≤ 260) (iv_h_size : 0 ≤ (h_size : Int32).toInt ∧ (h_size : Int32).toInt ≤ 255) (iv_h_value : inR h_value) (iv_h_out : 0 ≤ (h_out : Int32).toInt ∧ (h_out : Int32).toInt ≤ 1024) (iv_h_sections : 0 ≤ (h_sections : Int32).toInt ∧ (h_sections : Int32).toInt ≤ 4) (iv_h_items : 0 ≤ (h_items : Int32).toInt ∧ (h_items : Int32).toInt ≤ 255) (iv_h_reads : 0 ≤ (h_reads : Int32).toInt ∧ (h_reads : Int32).toInt ≤ 255) (iv_h_readSections : 0 ≤ (h_readSections : Int32).toInt ∧ (h_readSections : Int32).toInt ≤ 4) (iv_h_whole : 0 ≤ (h_whole : Int32).toInt ∧ (h_whole : Int32).toInt ≤ 1001) : Met l yX12_writeName pw_X12_writeName ({ frames := 1, cells := 0, slots := 0, locals := 21 }) (va_Pc [.ref h, .long p1, .int p2] (fun U => U.heap.size = sz ∧ va_P D vwCl [(h, .inr (9, [.int h_code, .int h_taped, .ref h_tape, .int h_size, .ref h_text, .double h_value, .int h_out, .ref h_output, .int h_illAt, .ref h_format, .int h_sections, .int h_items, .ref h_kind, .ref h_what, .ref h_of, .ref h_relation, .ref h_bound, .int h_reads, .int h_readSections, .ref h_readKind, .ref h_readWhat, .ref h_readOf, .ref h_place, .ref h_readRelation, .ref h_readBound, .int h_stop, .ref h_meant, .ref h_row, .ref h_exact, .ref h_error, .ref h_bestError, .long h_m, .int h_e, .ref h_digits, .int h_whole])), (h_output, .inl (cI, 1024, .inl h_outputF))] U.heap ∧ va_K D vwCl (ty3 cI cD cJ) U ∧ va_D (fun _ => True) [(h, .inr (9, [.int h_code, .int h_taped, .ref h_tape, .int h_size, .ref h_text, .double h_value, .int h_out, .ref h_output, .int h_illAt, .ref h_format, .int h_sections, .int h_items, .ref h_kind, .ref h_what, .ref h_of, .ref h_relation, .ref h_bound, .int h_reads, .int h_readSections, .ref h_readKind, .ref h_readWhat, .ref h_readOf, .ref h_place, .ref h_readRelation, .ref h_readBound, .int h_stop, .ref h_meant, .ref h_row, .ref h_exact, .ref h_error, .ref h_bestError, .long h_m, .int h_e, .ref h_digits, .int h_whole])), (h_output, .inl (cI, 1024, .inl h_outputF))])) (va_Qv (fun (u : Int32 × (Nat → Int32)) => match u with | (h_out2, h_outputF2) => (0 ≤ (h_out2 : Int32).toInt ∧ (h_out2 : Int32).toInt ≤ 1024)) (fun (u : Int32 × (Nat → Int32)) (t : State) => match u with | (h_out2, h_outputF2) => va_P D vwCl [(h, .inr (9, [.int h_code, .int h_taped, .ref h_tape, .int h_size, .ref h_text, .double h_value, .int h_out2, .ref h_output, .int h_illAt, .ref h_format, .int h_sections, .int h_items, .ref h_kind, .ref h_what, .ref h_of, .ref h_relation, .ref h_bound, .int h_reads, .int h_readSections, .ref h_readKind, .ref h_readWhat, .ref h_readOf, .ref h_place, .ref h_readRelation, .ref h_readBound, .int h_stop, .ref h_meant, .ref h_row, .ref h_exact, .ref h_error, .ref h_bestError, .long h_m, .int h_e, .ref h_digits, .int h_whole])), (h_output, .inl (cI, 1024, .inl h_outputF2))] t.heap ∧ va_K D vwCl (ty3 cI cD cJ) t ∧ va_D (va_A [(h, .inr (9, [.int h_code, .int h_taped, .ref h_tape, .int h_size, .ref h_text, .double h_value, .int h_out, .ref h_output, .int h_illAt, .ref h_format, .int h_sections, .int h_items, .ref h_kind, .ref h_what, .ref h_of, .ref h_relation, .ref h_bound, .int h_reads, .int h_readSections, .ref h_readKind, .ref h_readWhat, .ref h_readOf, .ref h_place, .ref h_readRelation, .ref h_readBound, .int h_stop, .ref h_meant, .ref h_row, .ref h_exact, .ref h_error, .ref h_bestError, .long h_m, .int h_e, .ref h_digits, .int h_whole])), (h_output, .inl (cI, 1024, .inl h_outputF))] sz) [(h, .inr (9, [.int h_code, .int h_taped, .ref h_tape, .int h_size, .ref h_text, .double h_value, .int h_out2, .ref h_output, .int h_illAt, .ref h_format, .int h_sections, .int h_items, .ref h_kind, .ref h_what, .ref h_of, .ref h_relation, .ref h_bound, .int h_reads, .int h_readSections, .ref h_readKind, .ref h_readWhat, .ref h_readOf, .ref h_place, .ref h_readRelation, .ref h_readBound, .int h_stop, .ref h_meant, .ref h_row, .ref h_exact, .ref h_error, .ref h_bestError, .long h_m, .int h_e, .ref h_digits, .int h_whole])), (h_output, .inl (cI, 1024, .inl h_outputF2))]) (va_A [(h, .inr (9, [.int h_code, .int h_taped, .ref h_tape, .int h_size, .ref h_text, .double h_value, .int h_out, .ref h_output, .int h_illAt, .ref h_format, .int h_sections, .int h_items, .ref h_kind, .ref h_what, .ref h_of, .ref h_relation, .ref h_bound, .int h_reads, .int h_readSections, .ref h_readKind, .ref h_readWhat, .ref h_readOf, .ref h_place, .ref h_readRelation, .ref h_readBound, .int h_stop, .ref h_meant, .ref h_row, .ref h_exact, .ref h_error, .ref h_bestError, .long h_m, .int h_e, .ref h_digits, .int h_whole])), (h_output, .inl (cI, 1024, .inl h_outputF))] sz)) 0 0 (va_A [(h, .inr (9, [.int h_code, .int h_taped, .ref h_tape, .int h_size, .ref h_text, .double h_value, .int h_out, .ref h_output, .int h_illAt, .ref h_format, .int h_sections, .int h_items, .ref h_kind, .ref h_what, .ref h_of, .ref h_relation, .ref h_bound, .int h_reads, .int h_readSections, .ref h_readKind, .ref h_readWhat, .ref h_readOf, .ref h_place, .ref h_readRelation, .ref h_readBound, .int h_stop, .ref h_meant, .ref h_row, .ref h_exact, .ref h_error, .ref h_bestError, .long h_m, .int h_e, .ref h_digits, .int h_whole])), (h_output, .inl (cI, 1024, .inl h_outputF))] sz) := by
  refine Met.ofW (cc := cX12_writeName) (maxL := 7) (ret := none) (by decide +kernel) rfl ?_
  intro p e s m args below meth c s₁ B hml hv
  obtain ⟨rfl, hsz, hP, hK, hD0⟩ := hv
  have hx := B.exec
  have hb := B.bytes
  have hr := B.returns
  have hts := atoms_spec (ws := pw_X12_writeName) B.pre
  have hown : s.vm.findClass RX12 = some m.cls := findClass_of_methodNamed B.named
  have hlocks := B.notSynchronized
  subst hsz
  have hD := hD0.self (sz := s.heap.size)
  generalize hAe : va_A [(h, .inr (9, [.int h_code, .int h_taped, .ref h_tape, .int h_size, .ref h_text, .double h_value, .int h_out, .ref h_output, .int h_illAt, .ref h_format, .int h_sections, .int h_items, .ref h_kind, .ref h_what, .ref h_of, .ref h_relation, .ref h_bound, .int h_reads, .int h_readSections, .ref h_readKind, .ref h_readWhat, .ref h_readOf, .ref h_place, .ref h_readRelation, .ref h_readBound, .int h_stop, .ref h_meant, .ref h_row, .ref h_exact, .ref h_error, .ref h_bestError, .long h_m, .int h_e, .ref h_digits, .int h_whole])), (h_output, .inl (cI, 1024, .inl h_outputF))] s.heap.size = A at hD ⊢
  have hA : ∀ q : Nat, s.heap.size ≤ q → A q := fun q h => by rw [← hAe]; exact Or.inr h
  have hS : va_S A s.heap s.heap [] := va_S.rf
  have hw : ∀ (k : Nat) (w : Cond), ow_X12_writeName[k]? = some w → w.before _ s = true := fun k w h => hts w (List.mem_cons_of_mem _ (have h9 := List.mem_of_getElem? h; List.mem_append_left _ h9))
  have i_X12_write : ∀ w ∈ pw_X12_write, w ∈ pw_X12_writeName := fun w h9 => List.mem_cons_of_mem _ (List.mem_append_right _ (h9))
  have n_m8 : (((-8) : Int32)).toInt = (-8) := by decide
  have n_0 : ((0 : Int32)).toInt = 0 := by decide
  have n_1 : ((1 : Int32)).toInt = 1 := by decide
  have n_56 : ((56 : Int32)).toInt = 56 := by decide
  have nl_255 : ((255 : Int64)).toInt = 255 := by decide
  have hl := lv_entry ([.ref h, .long p1, .int p2]) (n := 7) (Nat.le_of_ble_eq_true rfl)
  rw [lg_entry_eq]
  generalize (lg_sl ([.ref h, .long p1, .int p2]) ++ List.replicate (7 - (lg_sl ([.ref h, .long p1, .int p2])).length) Slot.unset).toArray = ls at hl ⊢
  have hl : lv_has ls 7 [(0, .ref h), (1, .long p1), (3, .int p2)] := hl
  have b_p2 := ti_b p2
  refine zz_cap (fun Z hZ1 hZ2 => ?_)
  refine lv_iconst (v := 0) hx hb dX12_writeName_0 (by decide) ?_
  refine lv_istore (lv' := [(4, .int 0), (0, .ref h), (1, .long p1), (3, .int p2)]) hx hb dX12_writeName_1 hl (by decide) rfl (fun ls hl => ?_)
  refine lv_bipush (v := 56) hx hb dX12_writeName_3 (by decide) ?_
  refine lv_istore (lv' := [(5, .int 56), (4, .int 0), (0, .ref h), (1, .long p1), (3, .int p2)]) hx hb dX12_writeName_5 hl (by decide) rfl (fun ls hl => ?_)
  have L_7 : ∀ (N : Nat) (x_1 : Int32) (x_2 : Int32) (x_3 : Int32) (f_4 : Nat → Int32) (H : Heap) (locs : List Loc) (ls : Array Slot), (0 ≤ (x_3 : Int32).toInt ∧ (x_3 : Int32).toInt ≤ 1024) → (((x_1 : Int32).toInt + 2147483648).toNat < N) → va_P D vwCl [(h, .inr (9, [.int h_code, .int h_taped, .ref h_tape, .int h_size, .ref h_text, .double h_value, .int x_3, .ref h_output, .int h_illAt, .ref h_format, .int h_sections, .int h_items, .ref h_kind, .ref h_what, .ref h_of, .ref h_relation, .ref h_bound, .int h_reads, .int h_readSections, .ref h_readKind, .ref h_readWhat, .ref h_readOf, .ref h_place, .ref h_readRelation, .ref h_readBound, .int h_stop, .ref h_meant, .ref h_row, .ref h_exact, .ref h_error, .ref h_bestError, .long h_m, .int h_e, .ref h_digits, .int h_whole])), (h_output, .inl (cI, 1024, .inl f_4))] H → va_D A [(h, .inr (9, [.int h_code, .int h_taped, .ref h_tape, .int h_size, .ref h_text, .double h_value, .int x_3, .ref h_output, .int h_illAt, .ref h_format, .int h_sections, .int h_items, .ref h_kind, .ref h_what, .ref h_of, .ref h_relation, .ref h_bound, .int h_reads, .int h_readSections, .ref h_readKind, .ref h_readWhat, .ref h_readOf, .ref h_place, .ref h_readRelation, .ref h_readBound, .int h_stop, .ref h_meant, .ref h_row, .ref h_exact, .ref h_error, .ref h_bestError, .long h_m, .int h_e, .ref h_digits, .int h_whole])), (h_output, .inl (cI, 1024, .inl f_4))] → va_S A s.heap H locs → lv_has ls 7 [(5, .int x_1), (4, .int x_2), (0, .ref h), (1, .long p1), (3, .int p2)] → Z 0 0 H locs (F0 m 7 ls []) := by
    intro N
    induction N with
    | zero => intro _ _ _ _ _ _ _ _ hmu; exact absurd hmu (Nat.not_lt_zero _)
    | succ N ih_7 =>
      intro x_1 x_2 x_3 f_4 H locs ls g7_0 hmu hP hD hS hl
      refine hZ2 ?_
      refine lv_iload hx hb dX12_writeName_7 (lv_at hl 0 rfl) ?_
      refine lv_if_lt (tgt := 52) hx hb dX12_writeName_9 (by decide) (fun c_5 => ?_) (fun c_5 => ?_)
      · have ic_5 : (x_1 : Int32).toInt < (0 : Int32).toInt := (fa_lt x_1 0).mp c_5
        have hP9 := hP.sub (ws' := [(h, .inr (9, [.int h_code, .int h_taped, .ref h_tape, .int h_size, .ref h_text, .double h_value, .int x_3, .ref h_output, .int h_illAt, .ref h_format, .int h_sections, .int h_items, .ref h_kind, .ref h_what, .ref h_of, .ref h_relation, .ref h_bound, .int h_reads, .int h_readSections, .ref h_readKind, .ref h_readWhat, .ref h_readOf, .ref h_place, .ref h_readRelation, .ref h_readBound, .int h_stop, .ref h_meant, .ref h_row, .ref h_exact, .ref h_error, .ref h_bestError, .long h_m, .int h_e, .ref h_digits, .int h_whole])), (h_output, .inl (cI, 1024, .inl f_4))]) [0, 1] rfl
        have hD9 := hD.sub (ws' := [(h, .inr (9, [.int h_code, .int h_taped, .ref h_tape, .int h_size, .ref h_text, .double h_value, .int x_3, .ref h_output, .int h_illAt, .ref h_format, .int h_sections, .int h_items, .ref h_kind, .ref h_what, .ref h_of, .ref h_relation, .ref h_bound, .int h_reads, .int h_readSections, .ref h_readKind, .ref h_readWhat, .ref h_readOf, .ref h_place, .ref h_readRelation, .ref h_readBound, .int h_stop, .ref h_meant, .ref h_row, .ref h_exact, .ref h_error, .ref h_bestError, .long h_m, .int h_e, .ref h_digits, .int h_whole])), (h_output, .inl (cI, 1024, .inl f_4))]) [0, 1] (by decide) rfl
        exact W.vret hx hb hr (fun t ht hW => ⟨⟨(x_3, f_4), rfl, (by (try dsimp only); first | omega | assumption), by rw [ht]; exact hP9, va_K.moved hW.alike hK, hD9⟩, hS.F ht⟩) hS.2.2 dX12_writeName_52
      · have ic_5 : ¬ ((x_1 : Int32).toInt < (0 : Int32).toInt) := fun h9 => c_5 ((fa_lt x_1 0).mpr h9)
        refine lv_lload_n hx hb dX12_writeName_12 rfl (lv_at hl 3 rfl) ?_
        refine lv_iload hx hb dX12_writeName_13 (lv_at hl 0 rfl) ?_
        refine lv_lshr hx hb dX12_writeName_15 rfl ?_
        refine lv_topl (fun y_6 ey_6 => ?_)
        refine lv_ldc2 (v := 255) hx hb hown (hw 0 (.constantLong RX12 163 (255)) rfl) dX12_writeName_16 ?_
        refine lv_land hx hb dX12_writeName_19 ?_
        refine lv_topl (fun y_7 ey_7 => ?_)
        refine lv_l2i hx hb dX12_writeName_20 rfl ?_
        refine lv_topi (fun x_8 ex_8 => ?_)
        have tx_8 := ti_l2i ex_8
        refine lv_istore (lv' := [(6, .int x_8), (5, .int x_1), (4, .int x_2), (0, .ref h), (1, .long p1), (3, .int p2)]) hx hb dX12_writeName_21 hl (by decide) rfl (fun ls hl => ?_)
        refine lv_iload hx hb dX12_writeName_23 (lv_at hl 0 rfl) ?_
        refine lv_if_eq (tgt := 46) hx hb dX12_writeName_25 (by decide) (fun c_9 => ?_) (fun c_9 => ?_)
        · have ic_9 : (x_8 : Int32).toInt = (0 : Int32).toInt := (fa_eq x_8 0).mp c_9
          obtain ⟨x_10, ex_10⟩ : ∃ y : Int32, y = x_1 + (-8) := ⟨_, rfl⟩
          have b_x_1 := ti_b x_1
          have tx_10 := ti_add ex_10
          refine lv_iinc (v := x_10) (lv' := [(5, .int x_10), (6, .int x_8), (4, .int x_2), (0, .ref h), (1, .long p1), (3, .int p2)]) hx hb dX12_writeName_46 hl (k := 1) rfl (by rw [ex_10]; rfl) (by decide) rfl (fun ls hl => ?_)
          refine lv_goto (tgt := 7) hx hb dX12_writeName_49 (by decide) ?_
          exact hZ1 (ih_7 x_10 x_2 x_3 f_4 _ _ _ (by omega) (by omega) hP hD hS (lv_sub hl [0, 2, 3, 4, 5] rfl))
        · have ic_9 : ¬ ((x_8 : Int32).toInt = (0 : Int32).toInt) := fun h9 => c_9 ((fa_eq x_8 0).mpr h9)
          refine lv_iload hx hb dX12_writeName_28 (lv_at hl 2 rfl) ?_
          refine lv_iload_n hx hb dX12_writeName_30 rfl (lv_at hl 5 rfl) ?_
          refine lv_icmp_ne (tgt := 37) hx hb dX12_writeName_31 (by decide) (fun c_11 => ?_) (fun c_11 => ?_)
          · have ic_11 : ¬ ((x_2 : Int32).toInt = (p2 : Int32).toInt) := fun h9 => c_11 ((fa_eq x_2 p2).mpr h9)
            refine lv_aload_n hx hb dX12_writeName_37 rfl (lv_at hl 3 rfl) ?_
            refine lv_iload hx hb dX12_writeName_38 (lv_at hl 0 rfl) ?_
            have hPc := hP.sub (ws' := [(h, .inr (9, [.int h_code, .int h_taped, .ref h_tape, .int h_size, .ref h_text, .double h_value, .int x_3, .ref h_output, .int h_illAt, .ref h_format, .int h_sections, .int h_items, .ref h_kind, .ref h_what, .ref h_of, .ref h_relation, .ref h_bound, .int h_reads, .int h_readSections, .ref h_readKind, .ref h_readWhat, .ref h_readOf, .ref h_place, .ref h_readRelation, .ref h_readBound, .int h_stop, .ref h_meant, .ref h_row, .ref h_exact, .ref h_error, .ref h_bestError, .long h_m, .int h_e, .ref h_digits, .int h_whole])), (h_output, .inl (cI, 1024, .inl f_4))]) [0, 1] rfl
            have hDc := hD.sub (ws' := [(h, .inr (9, [.int h_code, .int h_taped, .ref h_tape, .int h_size, .ref h_text, .double h_value, .int x_3, .ref h_output, .int h_illAt, .ref h_format, .int h_sections, .int h_items, .ref h_kind, .ref h_what, .ref h_of, .ref h_relation, .ref h_bound, .int h_reads, .int h_readSections, .ref h_readKind, .ref h_readWhat, .ref h_readOf, .ref h_place, .ref h_readRelation, .ref h_readBound, .int h_stop, .ref h_meant, .ref h_row, .ref h_exact, .ref h_error, .ref h_bestError, .long h_m, .int h_e, .ref h_digits, .int h_whole])), (h_output, .inl (cI, 1024, .inl f_4))]) [0, 1] (by decide) rfl
            have hFc := va_free (wc := [(h, .inr (9, [.int h_code, .int h_taped, .ref h_tape, .int h_size, .ref h_text, .double h_value, .int x_3, .ref h_output, .int h_illAt, .ref h_format, .int h_sections, .int h_items, .ref h_kind, .ref h_what, .ref h_of, .ref h_relation, .ref h_bound, .int h_reads, .int h_readSections, .ref h_readKind, .ref h_readWhat, .ref h_readOf, .ref h_place, .ref h_readRelation, .ref h_readBound, .int h_stop, .ref h_meant, .ref h_row, .ref h_exact, .ref h_error, .ref h_bestError, .long h_m, .int h_e, .ref h_digits, .int h_whole])), (h_output, .inl (cI, 1024, .inl f_4))]) hD hS hA [0, 1] rfl
            refine va_callv (va_runV (As := [.int x_8]) (rest := []) ⟨hx, hb, hml, hown, hts⟩ (c_X12_write l D cI cD cJ H.size h h_code h_taped h_tape h_size h_text h_value x_3 h_output h_illAt h_format h_sections h_items h_kind h_what h_of h_relation h_bound h_reads h_readSections h_readKind h_readWhat h_readOf h_place h_readRelation h_readBound h_stop h_meant h_row h_exact h_error h_bestError h_m h_e h_digits h_whole f_4 x_8 (by omega) (by omega) (by assumption) (by omega) (by omega) (by omega) (by omega) (by omega) (by omega)) (cwV 1 hts (goodIn_app (goodIn_r _ [2, 3, 4, 5] rfl (by decide +kernel)) (goodIn_sub i_X12_write k_X12_write)) rfl rfl rfl (by decide +kernel) ⟨Nat.le_of_ble_eq_true rfl, Nat.le_of_ble_eq_true rfl⟩) ⟨fun a U g mk q => by obtain ⟨q0, q1, qP, qK, qD⟩ := q; exact ⟨q0, q1, qP, va_K.moved (u := U) (U := U.calling g mk a) (Vm.Alike.refl U.vm) qK, qD⟩, va_recv hK hPc (ci := 9) (q0 := 0) rfl rfl, fun U hU hW => ⟨rfl, by rw [hU], by rw [hU]; exact hPc, va_K.moved hW.alike hK, hDc.weaken (fun _ _ _ _ => trivial)⟩⟩ rfl rfl hl.1 rfl (lv_room (Nat.le_of_ble_eq_true rfl)) dX12_writeName_40 ⟨Nat.le_of_ble_eq_true rfl, Nat.le_of_ble_eq_true rfl⟩) hS (fun q _ h => hFc q h) hFc (fun u t H1 locs ht hvm w_12 hB hz1 hk1 hS => ?_)
            obtain ⟨u_13, u_14⟩ := u
            obtain ⟨hP1, hK1, hD1⟩ := hB
            rw [ht] at hP1
            try dsimp only at w_12
            obtain ⟨hP, hD⟩ := va_join (wr := []) (w1 := [(h, .inr (9, [.int h_code, .int h_taped, .ref h_tape, .int h_size, .ref h_text, .double h_value, .int u_13, .ref h_output, .int h_illAt, .ref h_format, .int h_sections, .int h_items, .ref h_kind, .ref h_what, .ref h_of, .ref h_relation, .ref h_bound, .int h_reads, .int h_readSections, .ref h_readKind, .ref h_readWhat, .ref h_readOf, .ref h_place, .ref h_readRelation, .ref h_readBound, .int h_stop, .ref h_meant, .ref h_row, .ref h_exact, .ref h_error, .ref h_bestError, .long h_m, .int h_e, .ref h_digits, .int h_whole])), (h_output, .inl (cI, 1024, .inl u_14))]) hP hD [0, 1] [] rfl rfl (by decide) (by decide) hk1 hFc hP1 hD1
            generalize H1 = H at hP hS ⊢
            have hP : va_P D vwCl [(h, .inr (9, [.int h_code, .int h_taped, .ref h_tape, .int h_size, .ref h_text, .double h_value, .int u_13, .ref h_output, .int h_illAt, .ref h_format, .int h_sections, .int h_items, .ref h_kind, .ref h_what, .ref h_of, .ref h_relation, .ref h_bound, .int h_reads, .int h_readSections, .ref h_readKind, .ref h_readWhat, .ref h_readOf, .ref h_place, .ref h_readRelation, .ref h_readBound, .int h_stop, .ref h_meant, .ref h_row, .ref h_exact, .ref h_error, .ref h_bestError, .long h_m, .int h_e, .ref h_digits, .int h_whole])), (h_output, .inl (cI, 1024, .inl u_14))] H := hP
            have hD : va_D A [(h, .inr (9, [.int h_code, .int h_taped, .ref h_tape, .int h_size, .ref h_text, .double h_value, .int u_13, .ref h_output, .int h_illAt, .ref h_format, .int h_sections, .int h_items, .ref h_kind, .ref h_what, .ref h_of, .ref h_relation, .ref h_bound, .int h_reads, .int h_readSections, .ref h_readKind, .ref h_readWhat, .ref h_readOf, .ref h_place, .ref h_readRelation, .ref h_readBound, .int h_stop, .ref h_meant, .ref h_row, .ref h_exact, .ref h_error, .ref h_bestError, .long h_m, .int h_e, .ref h_digits, .int h_whole])), (h_output, .inl (cI, 1024, .inl u_14))] := hD
            obtain ⟨x_15, ex_15⟩ : ∃ y : Int32, y = x_2 + 1 := ⟨_, rfl⟩
            have b_x_2 := ti_b x_2
            have tx_15 := ti_add ex_15
            refine lv_iinc (v := x_15) (lv' := [(4, .int x_15), (6, .int x_8), (5, .int x_1), (0, .ref h), (1, .long p1), (3, .int p2)]) hx hb dX12_writeName_43 hl (k := 2) rfl (by rw [ex_15]; rfl) (by decide) rfl (fun ls hl => ?_)
            obtain ⟨x_16, ex_16⟩ : ∃ y : Int32, y = x_1 + (-8) := ⟨_, rfl⟩
            have b_x_1 := ti_b x_1
            have tx_16 := ti_add ex_16
            refine lv_iinc (v := x_16) (lv' := [(5, .int x_16), (4, .int x_15), (6, .int x_8), (0, .ref h), (1, .long p1), (3, .int p2)]) hx hb dX12_writeName_46 hl (k := 2) rfl (by rw [ex_16]; rfl) (by decide) rfl (fun ls hl => ?_)
            refine lv_goto (tgt := 7) hx hb dX12_writeName_49 (by decide) ?_
            exact hZ1 (ih_7 x_16 x_15 u_13 u_14 _ _ _ (by omega) (by omega) hP hD hS (lv_sub hl [0, 1, 3, 4, 5] rfl))
          · have ic_11 : (x_2 : Int32).toInt = (p2 : Int32).toInt := (fa_eq x_2 p2).mp c_11
            refine lv_goto (tgt := 46) hx hb dX12_writeName_34 (by decide) ?_
            obtain ⟨x_17, ex_17⟩ : ∃ y : Int32, y = x_1 + (-8) := ⟨_, rfl⟩
            have b_x_1 := ti_b x_1
            have tx_17 := ti_add ex_17
            refine lv_iinc (v := x_17) (lv' := [(5, .int x_17), (6, .int x_8), (4, .int x_2), (0, .ref h), (1, .long p1), (3, .int p2)]) hx hb dX12_writeName_46 hl (k := 1) rfl (by rw [ex_17]; rfl) (by decide) rfl (fun ls hl => ?_)
            refine lv_goto (tgt := 7) hx hb dX12_writeName_49 (by decide) ?_
            exact hZ1 (ih_7 x_17 x_2 x_3 f_4 _ _ _ (by omega) (by omega) hP hD hS (lv_sub hl [0, 2, 3, 4, 5] rfl))
  exact hZ1 (L_7 ((((56 : Int32).toInt + 2147483648).toNat) + 1) 56 0 h_out h_outputF _ _ _ (by omega) (by omega) hP hD hS hl)

def ow_X12_writeMonth : List Cond := [Cond.methodLink RX12 393 yX12_monthName, Cond.static yX12_monthName, Cond.initialized RX12, Cond.methodLink RX12 397 yX12_writeName, Cond.instanceMethod yX12_writeName, Cond.selects RX12 yX12_writeName yX12_writeName, Cond.methodLink RX12 278 yX12_write, Cond.instanceMethod yX12_write, Cond.selects RX12 yX12_write yX12_write, Cond.methodLink RX12 287 yX12_writeNumber, Cond.instanceMethod yX12_writeNumber, Cond.selects RX12 yX12_writeNumber yX12_writeNumber]
def pw_X12_writeMonth : List Cond := Cond.code yX12_writeMonth cX12_writeMonth 3 none :: (ow_X12_writeMonth ++ (pw_X12_monthName ++ (pw_X12_writeName ++ (pw_X12_write ++ (pw_X12_writeNumber)))))
set_option maxRecDepth 20000 in
theorem mo_X12_writeMonth : ∀ w ∈ ow_X12_writeMonth, w ∈ lw_tbl := by decide +kernel
set_option maxRecDepth 20000 in
theorem mc_X12_writeMonth : Cond.code yX12_writeMonth cX12_writeMonth 3 none ∈ lw_tbl := by decide +kernel
theorem m_X12_writeMonth : ∀ w ∈ pw_X12_writeMonth, w ∈ lw_tbl := List.forall_mem_cons.mpr ⟨mc_X12_writeMonth, (List.forall_mem_append.mpr ⟨mo_X12_writeMonth, (List.forall_mem_append.mpr ⟨m_X12_monthName, (List.forall_mem_append.mpr ⟨m_X12_writeName, (List.forall_mem_append.mpr ⟨m_X12_write, m_X12_writeNumber⟩)⟩)⟩)⟩)⟩
theorem ko_X12_writeMonth : ∀ w ∈ ow_X12_writeMonth, goodWord w = true := by decide +kernel
theorem k_X12_writeMonth : pw_X12_writeMonth.all goodWord = true := List.all_eq_true.mpr (List.forall_mem_cons.mpr ⟨by decide +kernel, (List.forall_mem_append.mpr ⟨ko_X12_writeMonth, (List.forall_mem_append.mpr ⟨(List.all_eq_true.mp k_X12_monthName), (List.forall_mem_append.mpr ⟨(List.all_eq_true.mp k_X12_writeName), (List.forall_mem_append.mpr ⟨(List.all_eq_true.mp k_X12_write), (List.all_eq_true.mp k_X12_writeNumber)⟩)⟩)⟩)⟩)⟩)
set_option maxHeartbeats 400000 in
set_option maxRecDepth 100000 in
theorem c_X12_writeMonth (l : Launch) (D : va_G) (cI cD cJ : ClassId) (sz : Nat) (h : Nat) (h_code : Int32) (h_taped : Int32) (h_tape : Nat) (h_size : Int32) (h_text : Nat) (h_value : UInt64) (h_out : Int32) (h_output : Nat) (h_illAt : Int32) (h_format : Nat) (h_sections : Int32) (h_items : Int32) (h_kind : Nat) (h_what : Nat) (h_of : Nat) (h_relation : Nat) (h_bound : Nat) (h_reads : Int32) (h_readSections : Int32) (h_readKind : Nat) (h_readWhat : Nat) (h_readOf : Nat) (h_place : Nat) (h_readRelation : Nat) (h_readBound : Nat) (h_stop : Int32) (h_meant : Nat) (h_row : Nat) (h_exact : Nat) (h_error : Nat) (h_bestError : Nat) (h_m : Int64) (h_e : Int32) (h_digits : Nat) (h_whole : Int32) (h_outputF : Nat → Int32) (p1 : Int32) (p2 : Int32) (iv_h_taped : 0 ≤ (h_taped : Int32).toInt ∧ (h_taped : Int32).toInt ≤ 260) (iv_h_size : 0 ≤ (h_size : Int32).toInt ∧ (h_size : Int32).toInt ≤ 255) (iv_h_value : inR h_value) (iv_h_out : 0 ≤ (h_out : Int32).toInt ∧ (h_out : Int32).toInt ≤ 1024) (iv_h_sections : 0 ≤ (h_sections : Int32).toInt ∧ (h_sections : Int32).toInt ≤ 4) (iv_h_items : 0 ≤ (h_items : Int32).toInt ∧ (h_items : Int32).toInt ≤ 255) (iv_h_reads : 0 ≤ (h_reads : Int32).toInt ∧ (h_reads : Int32).toInt ≤ 255) (iv_h_readSections : 0 ≤ (h_readSections : Int32).toInt ∧ (h_readSections : Int32).toInt ≤ 4) (iv_h_whole : 0 ≤ (h_whole : Int32).toInt ∧ (h_whole : Int32).toInt ≤ 1001) : Met l yX12_writeMonth pw_X12_writeMonth ({ frames := 2, cells := 0, slots := 0, locals := 49 }) (va_Pc [.ref h, .int p1, .int p2] (fun U => U.heap.size = sz ∧ va_P D vwCl [(h, .inr (9, [.int h_code, .int h_taped, .ref h_tape, .int h_size, .ref h_text, .double h_value, .int h_out, .ref h_output, .int h_illAt, .ref h_format, .int h_sections, .int h_items, .ref h_kind, .ref h_what, .ref h_of, .ref h_relation, .ref h_bound, .int h_reads, .int h_readSections, .ref h_readKind, .ref h_readWhat, .ref h_readOf, .ref h_place, .ref h_readRelation, .ref h_readBound, .int h_stop, .ref h_meant, .ref h_row, .ref h_exact, .ref h_error, .ref h_bestError, .long h_m, .int h_e, .ref h_digits, .int h_whole])), (h_output, .inl (cI, 1024, .inl h_outputF))] U.heap ∧ va_K D vwCl (ty3 cI cD cJ) U ∧ va_D (fun _ => True) [(h, .inr (9, [.int h_code, .int h_taped, .ref h_tape, .int h_size, .ref h_text, .double h_value, .int h_out, .ref h_output, .int h_illAt, .ref h_format, .int h_sections, .int h_items, .ref h_kind, .ref h_what, .ref h_of, .ref h_relation, .ref h_bound, .int h_reads, .int h_readSections, .ref h_readKind, .ref h_readWhat, .ref h_readOf, .ref h_place, .ref h_readRelation, .ref h_readBound, .int h_stop, .ref h_meant, .ref h_row, .ref h_exact, .ref h_error, .ref h_bestError, .long h_m, .int h_e, .ref h_digits, .int h_whole])), (h_output, .inl (cI, 1024, .inl h_outputF))])) (va_Qv (fun (u : Int32 × (Nat → Int32)) => match u with | (h_out2, h_outputF2) => (0 ≤ (h_out2 : Int32).toInt ∧ (h_out2 : Int32).toInt ≤ 1024)) (fun (u : Int32 × (Nat → Int32)) (t : State) => match u with | (h_out2, h_outputF2) => va_P D vwCl [(h, .inr (9, [.int h_code, .int h_taped, .ref h_tape, .int h_size, .ref h_text, .double h_value, .int h_out2, .ref h_output, .int h_illAt, .ref h_format, .int h_sections, .int h_items, .ref h_kind, .ref h_what, .ref h_of, .ref h_relation, .ref h_bound, .int h_reads, .int h_readSections, .ref h_readKind, .ref h_readWhat, .ref h_readOf, .ref h_place, .ref h_readRelation, .ref h_readBound, .int h_stop, .ref h_meant, .ref h_row, .ref h_exact, .ref h_error, .ref h_bestError, .long h_m, .int h_e, .ref h_digits, .int h_whole])), (h_output, .inl (cI, 1024, .inl h_outputF2))] t.heap ∧ va_K D vwCl (ty3 cI cD cJ) t ∧ va_D (va_A [(h, .inr (9, [.int h_code, .int h_taped, .ref h_tape, .int h_size, .ref h_text, .double h_value, .int h_out, .ref h_output, .int h_illAt, .ref h_format, .int h_sections, .int h_items, .ref h_kind, .ref h_what, .ref h_of, .ref h_relation, .ref h_bound, .int h_reads, .int h_readSections, .ref h_readKind, .ref h_readWhat, .ref h_readOf, .ref h_place, .ref h_readRelation, .ref h_readBound, .int h_stop, .ref h_meant, .ref h_row, .ref h_exact, .ref h_error, .ref h_bestError, .long h_m, .int h_e, .ref h_digits, .int h_whole])), (h_output, .inl (cI, 1024, .inl h_outputF))] sz) [(h, .inr (9, [.int h_code, .int h_taped, .ref h_tape, .int h_size, .ref h_text, .double h_value, .int h_out2, .ref h_output, .int h_illAt, .ref h_format, .int h_sections, .int h_items, .ref h_kind, .ref h_what, .ref h_of, .ref h_relation, .ref h_bound, .int h_reads, .int h_readSections, .ref h_readKind, .ref h_readWhat, .ref h_readOf, .ref h_place, .ref h_readRelation, .ref h_readBound, .int h_stop, .ref h_meant, .ref h_row, .ref h_exact, .ref h_error, .ref h_bestError, .long h_m, .int h_e, .ref h_digits, .int h_whole])), (h_output, .inl (cI, 1024, .inl h_outputF2))]) (va_A [(h, .inr (9, [.int h_code, .int h_taped, .ref h_tape, .int h_size, .ref h_text, .double h_value, .int h_out, .ref h_output, .int h_illAt, .ref h_format, .int h_sections, .int h_items, .ref h_kind, .ref h_what, .ref h_of, .ref h_relation, .ref h_bound, .int h_reads, .int h_readSections, .ref h_readKind, .ref h_readWhat, .ref h_readOf, .ref h_place, .ref h_readRelation, .ref h_readBound, .int h_stop, .ref h_meant, .ref h_row, .ref h_exact, .ref h_error, .ref h_bestError, .long h_m, .int h_e, .ref h_digits, .int h_whole])), (h_output, .inl (cI, 1024, .inl h_outputF))] sz)) 0 0 (va_A [(h, .inr (9, [.int h_code, .int h_taped, .ref h_tape, .int h_size, .ref h_text, .double h_value, .int h_out, .ref h_output, .int h_illAt, .ref h_format, .int h_sections, .int h_items, .ref h_kind, .ref h_what, .ref h_of, .ref h_relation, .ref h_bound, .int h_reads, .int h_readSections, .ref h_readKind, .ref h_readWhat, .ref h_readOf, .ref h_place, .ref h_readRelation, .ref h_readBound, .int h_stop, .ref h_meant, .ref h_row, .ref h_exact, .ref h_error, .ref h_bestError, .long h_m, .int h_e, .ref h_digits, .int h_whole])), (h_output, .inl (cI, 1024, .inl h_outputF))] sz) := by
  refine Met.ofW (cc := cX12_writeMonth) (maxL := 3) (ret := none) (by decide +kernel) rfl ?_
  intro p e s m args below meth c s₁ B hml hv
  obtain ⟨rfl, hsz, hP, hK, hD0⟩ := hv
  have hx := B.exec
  have hb := B.bytes
  have hr := B.returns
  have hts := atoms_spec (ws := pw_X12_writeMonth) B.pre
  have hown : s.vm.findClass RX12 = some m.cls := findClass_of_methodNamed B.named
  have hlocks := B.notSynchronized
  subst hsz
  have hD := hD0.self (sz := s.heap.size)
  generalize hAe : va_A [(h, .inr (9, [.int h_code, .int h_taped, .ref h_tape, .int h_size, .ref h_text, .double h_value, .int h_out, .ref h_output, .int h_illAt, .ref h_format, .int h_sections, .int h_items, .ref h_kind, .ref h_what, .ref h_of, .ref h_relation, .ref h_bound, .int h_reads, .int h_readSections, .ref h_readKind, .ref h_readWhat, .ref h_readOf, .ref h_place, .ref h_readRelation, .ref h_readBound, .int h_stop, .ref h_meant, .ref h_row, .ref h_exact, .ref h_error, .ref h_bestError, .long h_m, .int h_e, .ref h_digits, .int h_whole])), (h_output, .inl (cI, 1024, .inl h_outputF))] s.heap.size = A at hD ⊢
  have hA : ∀ q : Nat, s.heap.size ≤ q → A q := fun q h => by rw [← hAe]; exact Or.inr h
  have hS : va_S A s.heap s.heap [] := va_S.rf
  have hw : ∀ (k : Nat) (w : Cond), ow_X12_writeMonth[k]? = some w → w.before _ s = true := fun k w h => hts w (List.mem_cons_of_mem _ (have h9 := List.mem_of_getElem? h; List.mem_append_left _ h9))
  have i_X12_monthName : ∀ w ∈ pw_X12_monthName, w ∈ pw_X12_writeMonth := fun w h9 => List.mem_cons_of_mem _ (List.mem_append_right _ (List.mem_append_left _ h9))
  have i_X12_writeName : ∀ w ∈ pw_X12_writeName, w ∈ pw_X12_writeMonth := fun w h9 => List.mem_cons_of_mem _ (List.mem_append_right _ (List.mem_append_right _ (List.mem_append_left _ h9)))
  have i_X12_write : ∀ w ∈ pw_X12_write, w ∈ pw_X12_writeMonth := fun w h9 => List.mem_cons_of_mem _ (List.mem_append_right _ (List.mem_append_right _ (List.mem_append_right _ (List.mem_append_left _ h9))))
  have i_X12_writeNumber : ∀ w ∈ pw_X12_writeNumber, w ∈ pw_X12_writeMonth := fun w h9 => List.mem_cons_of_mem _ (List.mem_append_right _ (List.mem_append_right _ (List.mem_append_right _ (List.mem_append_right _ (h9)))))
  have n_1 : ((1 : Int32)).toInt = 1 := by decide
  have n_114 : ((114 : Int32)).toInt = 114 := by decide
  have n_3 : ((3 : Int32)).toInt = 3 := by decide
  have n_4 : ((4 : Int32)).toInt = 4 := by decide
  have n_8 : ((8 : Int32)).toInt = 8 := by decide
  have n_9 : ((9 : Int32)).toInt = 9 := by decide
  have hl := lv_entry ([.ref h, .int p1, .int p2]) (n := 3) (Nat.le_of_ble_eq_true rfl)
  rw [lg_entry_eq]
  generalize (lg_sl ([.ref h, .int p1, .int p2]) ++ List.replicate (3 - (lg_sl ([.ref h, .int p1, .int p2])).length) Slot.unset).toArray = ls at hl ⊢
  have hl : lv_has ls 3 [(0, .ref h), (1, .int p1), (2, .int p2)] := hl
  have b_p1 := ti_b p1
  have b_p2 := ti_b p2
  refine zz_cap (fun Z hZ1 hZ2 => ?_)
  refine lv_iload_n hx hb dX12_writeMonth_0 rfl (lv_at hl 2 rfl) ?_
  refine lv_iconst (v := 3) hx hb dX12_writeMonth_1 (by decide) ?_
  refine lv_icmp_ge (tgt := 15) hx hb dX12_writeMonth_2 (by decide) (fun c_1 => ?_) (fun c_1 => ?_)
  · have ic_1 : (3 : Int32).toInt ≤ (p2 : Int32).toInt := (fa_le 3 p2).mp c_1
    refine lv_iload_n hx hb dX12_writeMonth_15 rfl (lv_at hl 2 rfl) ?_
    refine lv_iconst (v := 4) hx hb dX12_writeMonth_16 (by decide) ?_
    refine lv_icmp_eq (tgt := 41) hx hb dX12_writeMonth_17 (by decide) (fun c_2 => ?_) (fun c_2 => ?_)
    · have ic_2 : (p2 : Int32).toInt = (4 : Int32).toInt := (fa_eq p2 4).mp c_2
      refine lv_aload_n hx hb dX12_writeMonth_41 rfl (lv_at hl 0 rfl) ?_
      refine lv_iload_n hx hb dX12_writeMonth_42 rfl (lv_at hl 1 rfl) ?_
      have hPc := hP.sub (ws' := []) [] rfl
      refine va_calll (va_runS (As := [.int p1]) (rest := [.ref h]) ⟨hx, hb, hml, hown, hts⟩ (c_X12_monthName l D cI cD cJ s.heap.size p1) (va_cwS 1 hts (goodIn_app (goodIn_r _ [1, 2, 3] rfl (by decide +kernel)) (goodIn_sub i_X12_monthName k_X12_monthName)) rfl rfl rfl (by decide +kernel) ⟨Nat.le_of_ble_eq_true rfl, Nat.le_of_ble_eq_true rfl⟩) ⟨fun a U g mk q => by obtain ⟨q0, qP, qK⟩ := q; exact ⟨q0, qP, va_K.moved (u := U) (U := U.calling g mk a) (Vm.Alike.refl U.vm) qK⟩, fun U hU hW => ⟨rfl, by rw [hU]; exact hPc, va_K.moved hW.alike hK⟩⟩ rfl rfl hl.1 rfl (lv_room (Nat.le_of_ble_eq_true rfl)) dX12_writeMonth_43 ⟨Nat.le_of_ble_eq_true rfl, Nat.le_of_ble_eq_true rfl⟩) hS (fun q _ h => h.elim) (fun q h => h.elim) (fun y_3 u t H1 locs ht hvm w_4 hB hz1 hk1 hS => ?_)
      have hP : va_P D vwCl [(h, .inr (9, [.int h_code, .int h_taped, .ref h_tape, .int h_size, .ref h_text, .double h_value, .int h_out, .ref h_output, .int h_illAt, .ref h_format, .int h_sections, .int h_items, .ref h_kind, .ref h_what, .ref h_of, .ref h_relation, .ref h_bound, .int h_reads, .int h_readSections, .ref h_readKind, .ref h_readWhat, .ref h_readOf, .ref h_place, .ref h_readRelation, .ref h_readBound, .int h_stop, .ref h_meant, .ref h_row, .ref h_exact, .ref h_error, .ref h_bestError, .long h_m, .int h_e, .ref h_digits, .int h_whole])), (h_output, .inl (cI, 1024, .inl h_outputF))] H1 := hP.kept (fun k9 q9 h9 => hk1 q9.1 (vx_lt hP h9) (fun h => h))
      generalize H1 = H at hP hS ⊢
      refine lv_bipush (v := 8) hx hb dX12_writeMonth_46 (by decide) ?_
      have hPc := hP.sub (ws' := [(h, .inr (9, [.int h_code, .int h_taped, .ref h_tape, .int h_size, .ref h_text, .double h_value, .int h_out, .ref h_output, .int h_illAt, .ref h_format, .int h_sections, .int h_items, .ref h_kind, .ref h_what, .ref h_of, .ref h_relation, .ref h_bound, .int h_reads, .int h_readSections, .ref h_readKind, .ref h_readWhat, .ref h_readOf, .ref h_place, .ref h_readRelation, .ref h_readBound, .int h_stop, .ref h_meant, .ref h_row, .ref h_exact, .ref h_error, .ref h_bestError, .long h_m, .int h_e, .ref h_digits, .int h_whole])), (h_output, .inl (cI, 1024, .inl h_outputF))]) [0, 1] rfl
      have hDc := hD.sub (ws' := [(h, .inr (9, [.int h_code, .int h_taped, .ref h_tape, .int h_size, .ref h_text, .double h_value, .int h_out, .ref h_output, .int h_illAt, .ref h_format, .int h_sections, .int h_items, .ref h_kind, .ref h_what, .ref h_of, .ref h_relation, .ref h_bound, .int h_reads, .int h_readSections, .ref h_readKind, .ref h_readWhat, .ref h_readOf, .ref h_place, .ref h_readRelation, .ref h_readBound, .int h_stop, .ref h_meant, .ref h_row, .ref h_exact, .ref h_error, .ref h_bestError, .long h_m, .int h_e, .ref h_digits, .int h_whole])), (h_output, .inl (cI, 1024, .inl h_outputF))]) [0, 1] (by decide) rfl
      have hFc := va_free (wc := [(h, .inr (9, [.int h_code, .int h_taped, .ref h_tape, .int h_size, .ref h_text, .double h_value, .int h_out, .ref h_output, .int h_illAt, .ref h_format, .int h_sections, .int h_items, .ref h_kind, .ref h_what, .ref h_of, .ref h_relation, .ref h_bound, .int h_reads, .int h_readSections, .ref h_readKind, .ref h_readWhat, .ref h_readOf, .ref h_place, .ref h_readRelation, .ref h_readBound, .int h_stop, .ref h_meant, .ref h_row, .ref h_exact, .ref h_error, .ref h_bestError, .long h_m, .int h_e, .ref h_digits, .int h_whole])), (h_output, .inl (cI, 1024, .inl h_outputF))]) hD hS hA [0, 1] rfl
      refine va_callv (va_runV (As := [.long y_3, .int 8]) (rest := []) ⟨hx, hb, hml, hown, hts⟩ (c_X12_writeName l D cI cD cJ H.size h h_code h_taped h_tape h_size h_text h_value h_out h_output h_illAt h_format h_sections h_items h_kind h_what h_of h_relation h_bound h_reads h_readSections h_readKind h_readWhat h_readOf h_place h_readRelation h_readBound h_stop h_meant h_row h_exact h_error h_bestError h_m h_e h_digits h_whole h_outputF y_3 8 (by omega) (by omega) (by assumption) (by omega) (by omega) (by omega) (by omega) (by omega) (by omega)) (cwV 2 hts (goodIn_app (goodIn_r _ [4, 5, 6, 3] rfl (by decide +kernel)) (goodIn_sub i_X12_writeName k_X12_writeName)) rfl rfl rfl (by decide +kernel) ⟨Nat.le_of_ble_eq_true rfl, Nat.le_of_ble_eq_true rfl⟩) ⟨fun a U g mk q => by obtain ⟨q0, q1, qP, qK, qD⟩ := q; exact ⟨q0, q1, qP, va_K.moved (u := U) (U := U.calling g mk a) (Vm.Alike.refl U.vm) qK, qD⟩, va_recv hK hPc (ci := 9) (q0 := 0) rfl rfl, fun U hU hW => ⟨rfl, by rw [hU], by rw [hU]; exact hPc, va_K.moved hW.alike hK, hDc.weaken (fun _ _ _ _ => trivial)⟩⟩ rfl rfl hl.1 rfl (lv_room (Nat.le_of_ble_eq_true rfl)) dX12_writeMonth_48 ⟨Nat.le_of_ble_eq_true rfl, Nat.le_of_ble_eq_true rfl⟩) hS (fun q _ h => hFc q h) hFc (fun u t H1 locs ht hvm w_5 hB hz1 hk1 hS => ?_)
      obtain ⟨u_6, u_7⟩ := u
      obtain ⟨hP1, hK1, hD1⟩ := hB
      rw [ht] at hP1
      try dsimp only at w_5
      obtain ⟨hP, hD⟩ := va_join (wr := []) (w1 := [(h, .inr (9, [.int h_code, .int h_taped, .ref h_tape, .int h_size, .ref h_text, .double h_value, .int u_6, .ref h_output, .int h_illAt, .ref h_format, .int h_sections, .int h_items, .ref h_kind, .ref h_what, .ref h_of, .ref h_relation, .ref h_bound, .int h_reads, .int h_readSections, .ref h_readKind, .ref h_readWhat, .ref h_readOf, .ref h_place, .ref h_readRelation, .ref h_readBound, .int h_stop, .ref h_meant, .ref h_row, .ref h_exact, .ref h_error, .ref h_bestError, .long h_m, .int h_e, .ref h_digits, .int h_whole])), (h_output, .inl (cI, 1024, .inl u_7))]) hP hD [0, 1] [] rfl rfl (by decide) (by decide) hk1 hFc hP1 hD1
      generalize H1 = H at hP hS ⊢
      have hP : va_P D vwCl [(h, .inr (9, [.int h_code, .int h_taped, .ref h_tape, .int h_size, .ref h_text, .double h_value, .int u_6, .ref h_output, .int h_illAt, .ref h_format, .int h_sections, .int h_items, .ref h_kind, .ref h_what, .ref h_of, .ref h_relation, .ref h_bound, .int h_reads, .int h_readSections, .ref h_readKind, .ref h_readWhat, .ref h_readOf, .ref h_place, .ref h_readRelation, .ref h_readBound, .int h_stop, .ref h_meant, .ref h_row, .ref h_exact, .ref h_error, .ref h_bestError, .long h_m, .int h_e, .ref h_digits, .int h_whole])), (h_output, .inl (cI, 1024, .inl u_7))] H := hP
      have hD : va_D A [(h, .inr (9, [.int h_code, .int h_taped, .ref h_tape, .int h_size, .ref h_text, .double h_value, .int u_6, .ref h_output, .int h_illAt, .ref h_format, .int h_sections, .int h_items, .ref h_kind, .ref h_what, .ref h_of, .ref h_relation, .ref h_bound, .int h_reads, .int h_readSections, .ref h_readKind, .ref h_readWhat, .ref h_readOf, .ref h_place, .ref h_readRelation, .ref h_readBound, .int h_stop, .ref h_meant, .ref h_row, .ref h_exact, .ref h_error, .ref h_bestError, .long h_m, .int h_e, .ref h_digits, .int h_whole])), (h_output, .inl (cI, 1024, .inl u_7))] := hD
      refine lv_iload_n hx hb dX12_writeMonth_51 rfl (lv_at hl 1 rfl) ?_
      refine lv_bipush (v := 9) hx hb dX12_writeMonth_52 (by decide) ?_
      refine lv_icmp_ne (tgt := 63) hx hb dX12_writeMonth_54 (by decide) (fun c_8 => ?_) (fun c_8 => ?_)
      · have ic_8 : ¬ ((p1 : Int32).toInt = (9 : Int32).toInt) := fun h9 => c_8 ((fa_eq p1 9).mpr h9)
        have hP9 := hP.sub (ws' := [(h, .inr (9, [.int h_code, .int h_taped, .ref h_tape, .int h_size, .ref h_text, .double h_value, .int u_6, .ref h_output, .int h_illAt, .ref h_format, .int h_sections, .int h_items, .ref h_kind, .ref h_what, .ref h_of, .ref h_relation, .ref h_bound, .int h_reads, .int h_readSections, .ref h_readKind, .ref h_readWhat, .ref h_readOf, .ref h_place, .ref h_readRelation, .ref h_readBound, .int h_stop, .ref h_meant, .ref h_row, .ref h_exact, .ref h_error, .ref h_bestError, .long h_m, .int h_e, .ref h_digits, .int h_whole])), (h_output, .inl (cI, 1024, .inl u_7))]) [0, 1] rfl
        have hD9 := hD.sub (ws' := [(h, .inr (9, [.int h_code, .int h_taped, .ref h_tape, .int h_size, .ref h_text, .double h_value, .int u_6, .ref h_output, .int h_illAt, .ref h_format, .int h_sections, .int h_items, .ref h_kind, .ref h_what, .ref h_of, .ref h_relation, .ref h_bound, .int h_reads, .int h_readSections, .ref h_readKind, .ref h_readWhat, .ref h_readOf, .ref h_place, .ref h_readRelation, .ref h_readBound, .int h_stop, .ref h_meant, .ref h_row, .ref h_exact, .ref h_error, .ref h_bestError, .long h_m, .int h_e, .ref h_digits, .int h_whole])), (h_output, .inl (cI, 1024, .inl u_7))]) [0, 1] (by decide) rfl
        exact W.vret hx hb hr (fun t ht hW => ⟨⟨(u_6, u_7), rfl, (by (try dsimp only); first | omega | assumption), by rw [ht]; exact hP9, va_K.moved hW.alike hK, hD9⟩, hS.F ht⟩) hS.2.2 dX12_writeMonth_63
      · have ic_8 : (p1 : Int32).toInt = (9 : Int32).toInt := (fa_eq p1 9).mp c_8
        refine lv_aload_n hx hb dX12_writeMonth_57 rfl (lv_at hl 0 rfl) ?_
        refine lv_bipush (v := 114) hx hb dX12_writeMonth_58 (by decide) ?_
        have hPc := hP.sub (ws' := [(h, .inr (9, [.int h_code, .int h_taped, .ref h_tape, .int h_size, .ref h_text, .double h_value, .int u_6, .ref h_output, .int h_illAt, .ref h_format, .int h_sections, .int h_items, .ref h_kind, .ref h_what, .ref h_of, .ref h_relation, .ref h_bound, .int h_reads, .int h_readSections, .ref h_readKind, .ref h_readWhat, .ref h_readOf, .ref h_place, .ref h_readRelation, .ref h_readBound, .int h_stop, .ref h_meant, .ref h_row, .ref h_exact, .ref h_error, .ref h_bestError, .long h_m, .int h_e, .ref h_digits, .int h_whole])), (h_output, .inl (cI, 1024, .inl u_7))]) [0, 1] rfl
        have hDc := hD.sub (ws' := [(h, .inr (9, [.int h_code, .int h_taped, .ref h_tape, .int h_size, .ref h_text, .double h_value, .int u_6, .ref h_output, .int h_illAt, .ref h_format, .int h_sections, .int h_items, .ref h_kind, .ref h_what, .ref h_of, .ref h_relation, .ref h_bound, .int h_reads, .int h_readSections, .ref h_readKind, .ref h_readWhat, .ref h_readOf, .ref h_place, .ref h_readRelation, .ref h_readBound, .int h_stop, .ref h_meant, .ref h_row, .ref h_exact, .ref h_error, .ref h_bestError, .long h_m, .int h_e, .ref h_digits, .int h_whole])), (h_output, .inl (cI, 1024, .inl u_7))]) [0, 1] (by decide) rfl
        have hFc := va_free (wc := [(h, .inr (9, [.int h_code, .int h_taped, .ref h_tape, .int h_size, .ref h_text, .double h_value, .int u_6, .ref h_output, .int h_illAt, .ref h_format, .int h_sections, .int h_items, .ref h_kind, .ref h_what, .ref h_of, .ref h_relation, .ref h_bound, .int h_reads, .int h_readSections, .ref h_readKind, .ref h_readWhat, .ref h_readOf, .ref h_place, .ref h_readRelation, .ref h_readBound, .int h_stop, .ref h_meant, .ref h_row, .ref h_exact, .ref h_error, .ref h_bestError, .long h_m, .int h_e, .ref h_digits, .int h_whole])), (h_output, .inl (cI, 1024, .inl u_7))]) hD hS hA [0, 1] rfl
        refine va_callv (va_runV (As := [.int 114]) (rest := []) ⟨hx, hb, hml, hown, hts⟩ (c_X12_write l D cI cD cJ H.size h h_code h_taped h_tape h_size h_text h_value u_6 h_output h_illAt h_format h_sections h_items h_kind h_what h_of h_relation h_bound h_reads h_readSections h_readKind h_readWhat h_readOf h_place h_readRelation h_readBound h_stop h_meant h_row h_exact h_error h_bestError h_m h_e h_digits h_whole u_7 114 (by omega) (by omega) (by assumption) (by omega) (by omega) (by omega) (by omega) (by omega) (by omega)) (cwV 1 hts (goodIn_app (goodIn_r _ [7, 8, 9, 3] rfl (by decide +kernel)) (goodIn_sub i_X12_write k_X12_write)) rfl rfl rfl (by decide +kernel) ⟨Nat.le_of_ble_eq_true rfl, Nat.le_of_ble_eq_true rfl⟩) ⟨fun a U g mk q => by obtain ⟨q0, q1, qP, qK, qD⟩ := q; exact ⟨q0, q1, qP, va_K.moved (u := U) (U := U.calling g mk a) (Vm.Alike.refl U.vm) qK, qD⟩, va_recv hK hPc (ci := 9) (q0 := 0) rfl rfl, fun U hU hW => ⟨rfl, by rw [hU], by rw [hU]; exact hPc, va_K.moved hW.alike hK, hDc.weaken (fun _ _ _ _ => trivial)⟩⟩ rfl rfl hl.1 rfl (lv_room (Nat.le_of_ble_eq_true rfl)) dX12_writeMonth_60 ⟨Nat.le_of_ble_eq_true rfl, Nat.le_of_ble_eq_true rfl⟩) hS (fun q _ h => hFc q h) hFc (fun u t H1 locs ht hvm w_9 hB hz1 hk1 hS => ?_)
        obtain ⟨u_10, u_11⟩ := u
        obtain ⟨hP1, hK1, hD1⟩ := hB
        rw [ht] at hP1
        try dsimp only at w_9
        obtain ⟨hP, hD⟩ := va_join (wr := []) (w1 := [(h, .inr (9, [.int h_code, .int h_taped, .ref h_tape, .int h_size, .ref h_text, .double h_value, .int u_10, .ref h_output, .int h_illAt, .ref h_format, .int h_sections, .int h_items, .ref h_kind, .ref h_what, .ref h_of, .ref h_relation, .ref h_bound, .int h_reads, .int h_readSections, .ref h_readKind, .ref h_readWhat, .ref h_readOf, .ref h_place, .ref h_readRelation, .ref h_readBound, .int h_stop, .ref h_meant, .ref h_row, .ref h_exact, .ref h_error, .ref h_bestError, .long h_m, .int h_e, .ref h_digits, .int h_whole])), (h_output, .inl (cI, 1024, .inl u_11))]) hP hD [0, 1] [] rfl rfl (by decide) (by decide) hk1 hFc hP1 hD1
        generalize H1 = H at hP hS ⊢
        have hP : va_P D vwCl [(h, .inr (9, [.int h_code, .int h_taped, .ref h_tape, .int h_size, .ref h_text, .double h_value, .int u_10, .ref h_output, .int h_illAt, .ref h_format, .int h_sections, .int h_items, .ref h_kind, .ref h_what, .ref h_of, .ref h_relation, .ref h_bound, .int h_reads, .int h_readSections, .ref h_readKind, .ref h_readWhat, .ref h_readOf, .ref h_place, .ref h_readRelation, .ref h_readBound, .int h_stop, .ref h_meant, .ref h_row, .ref h_exact, .ref h_error, .ref h_bestError, .long h_m, .int h_e, .ref h_digits, .int h_whole])), (h_output, .inl (cI, 1024, .inl u_11))] H := hP
        have hD : va_D A [(h, .inr (9, [.int h_code, .int h_taped, .ref h_tape, .int h_size, .ref h_text, .double h_value, .int u_10, .ref h_output, .int h_illAt, .ref h_format, .int h_sections, .int h_items, .ref h_kind, .ref h_what, .ref h_of, .ref h_relation, .ref h_bound, .int h_reads, .int h_readSections, .ref h_readKind, .ref h_readWhat, .ref h_readOf, .ref h_place, .ref h_readRelation, .ref h_readBound, .int h_stop, .ref h_meant, .ref h_row, .ref h_exact, .ref h_error, .ref h_bestError, .long h_m, .int h_e, .ref h_digits, .int h_whole])), (h_output, .inl (cI, 1024, .inl u_11))] := hD
        have hP9 := hP.sub (ws' := [(h, .inr (9, [.int h_code, .int h_taped, .ref h_tape, .int h_size, .ref h_text, .double h_value, .int u_10, .ref h_output, .int h_illAt, .ref h_format, .int h_sections, .int h_items, .ref h_kind, .ref h_what, .ref h_of, .ref h_relation, .ref h_bound, .int h_reads, .int h_readSections, .ref h_readKind, .ref h_readWhat, .ref h_readOf, .ref h_place, .ref h_readRelation, .ref h_readBound, .int h_stop, .ref h_meant, .ref h_row, .ref h_exact, .ref h_error, .ref h_bestError, .long h_m, .int h_e, .ref h_digits, .int h_whole])), (h_output, .inl (cI, 1024, .inl u_11))]) [0, 1] rfl
        have hD9 := hD.sub (ws' := [(h, .inr (9, [.int h_code, .int h_taped, .ref h_tape, .int h_size, .ref h_text, .double h_value, .int u_10, .ref h_output, .int h_illAt, .ref h_format, .int h_sections, .int h_items, .ref h_kind, .ref h_what, .ref h_of, .ref h_relation, .ref h_bound, .int h_reads, .int h_readSections, .ref h_readKind, .ref h_readWhat, .ref h_readOf, .ref h_place, .ref h_readRelation, .ref h_readBound, .int h_stop, .ref h_meant, .ref h_row, .ref h_exact, .ref h_error, .ref h_bestError, .long h_m, .int h_e, .ref h_digits, .int h_whole])), (h_output, .inl (cI, 1024, .inl u_11))]) [0, 1] (by decide) rfl
        exact W.vret hx hb hr (fun t ht hW => ⟨⟨(u_10, u_11), rfl, (by (try dsimp only); first | omega | assumption), by rw [ht]; exact hP9, va_K.moved hW.alike hK, hD9⟩, hS.F ht⟩) hS.2.2 dX12_writeMonth_63
    · have ic_2 : ¬ ((p2 : Int32).toInt = (4 : Int32).toInt) := fun h9 => c_2 ((fa_eq p2 4).mpr h9)
      refine lv_aload_n hx hb dX12_writeMonth_20 rfl (lv_at hl 0 rfl) ?_
      refine lv_iload_n hx hb dX12_writeMonth_21 rfl (lv_at hl 1 rfl) ?_
      have hPc := hP.sub (ws' := []) [] rfl
      refine va_calll (va_runS (As := [.int p1]) (rest := [.ref h]) ⟨hx, hb, hml, hown, hts⟩ (c_X12_monthName l D cI cD cJ s.heap.size p1) (va_cwS 1 hts (goodIn_app (goodIn_r _ [1, 2, 3] rfl (by decide +kernel)) (goodIn_sub i_X12_monthName k_X12_monthName)) rfl rfl rfl (by decide +kernel) ⟨Nat.le_of_ble_eq_true rfl, Nat.le_of_ble_eq_true rfl⟩) ⟨fun a U g mk q => by obtain ⟨q0, qP, qK⟩ := q; exact ⟨q0, qP, va_K.moved (u := U) (U := U.calling g mk a) (Vm.Alike.refl U.vm) qK⟩, fun U hU hW => ⟨rfl, by rw [hU]; exact hPc, va_K.moved hW.alike hK⟩⟩ rfl rfl hl.1 rfl (lv_room (Nat.le_of_ble_eq_true rfl)) dX12_writeMonth_22 ⟨Nat.le_of_ble_eq_true rfl, Nat.le_of_ble_eq_true rfl⟩) hS (fun q _ h => h.elim) (fun q h => h.elim) (fun y_12 u t H1 locs ht hvm w_13 hB hz1 hk1 hS => ?_)
      have hP : va_P D vwCl [(h, .inr (9, [.int h_code, .int h_taped, .ref h_tape, .int h_size, .ref h_text, .double h_value, .int h_out, .ref h_output, .int h_illAt, .ref h_format, .int h_sections, .int h_items, .ref h_kind, .ref h_what, .ref h_of, .ref h_relation, .ref h_bound, .int h_reads, .int h_readSections, .ref h_readKind, .ref h_readWhat, .ref h_readOf, .ref h_place, .ref h_readRelation, .ref h_readBound, .int h_stop, .ref h_meant, .ref h_row, .ref h_exact, .ref h_error, .ref h_bestError, .long h_m, .int h_e, .ref h_digits, .int h_whole])), (h_output, .inl (cI, 1024, .inl h_outputF))] H1 := hP.kept (fun k9 q9 h9 => hk1 q9.1 (vx_lt hP h9) (fun h => h))
      generalize H1 = H at hP hS ⊢
      refine lv_iload_n hx hb dX12_writeMonth_25 rfl (lv_at hl 2 rfl) ?_
      refine lv_iconst (v := 3) hx hb dX12_writeMonth_26 (by decide) ?_
      have K_35 : ∀ (z_14 : Int32) (H : Heap) (locs : List Loc) (ls : Array Slot), va_P D vwCl [(h, .inr (9, [.int h_code, .int h_taped, .ref h_tape, .int h_size, .ref h_text, .double h_value, .int h_out, .ref h_output, .int h_illAt, .ref h_format, .int h_sections, .int h_items, .ref h_kind, .ref h_what, .ref h_of, .ref h_relation, .ref h_bound, .int h_reads, .int h_readSections, .ref h_readKind, .ref h_readWhat, .ref h_readOf, .ref h_place, .ref h_readRelation, .ref h_readBound, .int h_stop, .ref h_meant, .ref h_row, .ref h_exact, .ref h_error, .ref h_bestError, .long h_m, .int h_e, .ref h_digits, .int h_whole])), (h_output, .inl (cI, 1024, .inl h_outputF))] H → va_D A [(h, .inr (9, [.int h_code, .int h_taped, .ref h_tape, .int h_size, .ref h_text, .double h_value, .int h_out, .ref h_output, .int h_illAt, .ref h_format, .int h_sections, .int h_items, .ref h_kind, .ref h_what, .ref h_of, .ref h_relation, .ref h_bound, .int h_reads, .int h_readSections, .ref h_readKind, .ref h_readWhat, .ref h_readOf, .ref h_place, .ref h_readRelation, .ref h_readBound, .int h_stop, .ref h_meant, .ref h_row, .ref h_exact, .ref h_error, .ref h_bestError, .long h_m, .int h_e, .ref h_digits, .int h_whole])), (h_output, .inl (cI, 1024, .inl h_outputF))] → va_S A s.heap H locs → lv_has ls 3 [] → Z 0 0 H locs (F0 m 35 ls [.int z_14, .long y_12, .ref h]) := by
        intro z_14 H locs ls  hP hD hS hl
        refine hZ2 ?_
        have hPc := hP.sub (ws' := [(h, .inr (9, [.int h_code, .int h_taped, .ref h_tape, .int h_size, .ref h_text, .double h_value, .int h_out, .ref h_output, .int h_illAt, .ref h_format, .int h_sections, .int h_items, .ref h_kind, .ref h_what, .ref h_of, .ref h_relation, .ref h_bound, .int h_reads, .int h_readSections, .ref h_readKind, .ref h_readWhat, .ref h_readOf, .ref h_place, .ref h_readRelation, .ref h_readBound, .int h_stop, .ref h_meant, .ref h_row, .ref h_exact, .ref h_error, .ref h_bestError, .long h_m, .int h_e, .ref h_digits, .int h_whole])), (h_output, .inl (cI, 1024, .inl h_outputF))]) [0, 1] rfl
        have hDc := hD.sub (ws' := [(h, .inr (9, [.int h_code, .int h_taped, .ref h_tape, .int h_size, .ref h_text, .double h_value, .int h_out, .ref h_output, .int h_illAt, .ref h_format, .int h_sections, .int h_items, .ref h_kind, .ref h_what, .ref h_of, .ref h_relation, .ref h_bound, .int h_reads, .int h_readSections, .ref h_readKind, .ref h_readWhat, .ref h_readOf, .ref h_place, .ref h_readRelation, .ref h_readBound, .int h_stop, .ref h_meant, .ref h_row, .ref h_exact, .ref h_error, .ref h_bestError, .long h_m, .int h_e, .ref h_digits, .int h_whole])), (h_output, .inl (cI, 1024, .inl h_outputF))]) [0, 1] (by decide) rfl
        have hFc := va_free (wc := [(h, .inr (9, [.int h_code, .int h_taped, .ref h_tape, .int h_size, .ref h_text, .double h_value, .int h_out, .ref h_output, .int h_illAt, .ref h_format, .int h_sections, .int h_items, .ref h_kind, .ref h_what, .ref h_of, .ref h_relation, .ref h_bound, .int h_reads, .int h_readSections, .ref h_readKind, .ref h_readWhat, .ref h_readOf, .ref h_place, .ref h_readRelation, .ref h_readBound, .int h_stop, .ref h_meant, .ref h_row, .ref h_exact, .ref h_error, .ref h_bestError, .long h_m, .int h_e, .ref h_digits, .int h_whole])), (h_output, .inl (cI, 1024, .inl h_outputF))]) hD hS hA [0, 1] rfl
        refine va_callv (va_runV (As := [.long y_12, .int z_14]) (rest := []) ⟨hx, hb, hml, hown, hts⟩ (c_X12_writeName l D cI cD cJ H.size h h_code h_taped h_tape h_size h_text h_value h_out h_output h_illAt h_format h_sections h_items h_kind h_what h_of h_relation h_bound h_reads h_readSections h_readKind h_readWhat h_readOf h_place h_readRelation h_readBound h_stop h_meant h_row h_exact h_error h_bestError h_m h_e h_digits h_whole h_outputF y_12 z_14 (by omega) (by omega) (by assumption) (by omega) (by omega) (by omega) (by omega) (by omega) (by omega)) (cwV 2 hts (goodIn_app (goodIn_r _ [4, 5, 6, 3] rfl (by decide +kernel)) (goodIn_sub i_X12_writeName k_X12_writeName)) rfl rfl rfl (by decide +kernel) ⟨Nat.le_of_ble_eq_true rfl, Nat.le_of_ble_eq_true rfl⟩) ⟨fun a U g mk q => by obtain ⟨q0, q1, qP, qK, qD⟩ := q; exact ⟨q0, q1, qP, va_K.moved (u := U) (U := U.calling g mk a) (Vm.Alike.refl U.vm) qK, qD⟩, va_recv hK hPc (ci := 9) (q0 := 0) rfl rfl, fun U hU hW => ⟨rfl, by rw [hU], by rw [hU]; exact hPc, va_K.moved hW.alike hK, hDc.weaken (fun _ _ _ _ => trivial)⟩⟩ rfl rfl hl.1 rfl (lv_room (Nat.le_of_ble_eq_true rfl)) dX12_writeMonth_35 ⟨Nat.le_of_ble_eq_true rfl, Nat.le_of_ble_eq_true rfl⟩) hS (fun q _ h => hFc q h) hFc (fun u t H1 locs ht hvm w_15 hB hz1 hk1 hS => ?_)
        obtain ⟨u_16, u_17⟩ := u
        obtain ⟨hP1, hK1, hD1⟩ := hB
        rw [ht] at hP1
        try dsimp only at w_15
        obtain ⟨hP, hD⟩ := va_join (wr := []) (w1 := [(h, .inr (9, [.int h_code, .int h_taped, .ref h_tape, .int h_size, .ref h_text, .double h_value, .int u_16, .ref h_output, .int h_illAt, .ref h_format, .int h_sections, .int h_items, .ref h_kind, .ref h_what, .ref h_of, .ref h_relation, .ref h_bound, .int h_reads, .int h_readSections, .ref h_readKind, .ref h_readWhat, .ref h_readOf, .ref h_place, .ref h_readRelation, .ref h_readBound, .int h_stop, .ref h_meant, .ref h_row, .ref h_exact, .ref h_error, .ref h_bestError, .long h_m, .int h_e, .ref h_digits, .int h_whole])), (h_output, .inl (cI, 1024, .inl u_17))]) hP hD [0, 1] [] rfl rfl (by decide) (by decide) hk1 hFc hP1 hD1
        generalize H1 = H at hP hS ⊢
        have hP : va_P D vwCl [(h, .inr (9, [.int h_code, .int h_taped, .ref h_tape, .int h_size, .ref h_text, .double h_value, .int u_16, .ref h_output, .int h_illAt, .ref h_format, .int h_sections, .int h_items, .ref h_kind, .ref h_what, .ref h_of, .ref h_relation, .ref h_bound, .int h_reads, .int h_readSections, .ref h_readKind, .ref h_readWhat, .ref h_readOf, .ref h_place, .ref h_readRelation, .ref h_readBound, .int h_stop, .ref h_meant, .ref h_row, .ref h_exact, .ref h_error, .ref h_bestError, .long h_m, .int h_e, .ref h_digits, .int h_whole])), (h_output, .inl (cI, 1024, .inl u_17))] H := hP
        have hD : va_D A [(h, .inr (9, [.int h_code, .int h_taped, .ref h_tape, .int h_size, .ref h_text, .double h_value, .int u_16, .ref h_output, .int h_illAt, .ref h_format, .int h_sections, .int h_items, .ref h_kind, .ref h_what, .ref h_of, .ref h_relation, .ref h_bound, .int h_reads, .int h_readSections, .ref h_readKind, .ref h_readWhat, .ref h_readOf, .ref h_place, .ref h_readRelation, .ref h_readBound, .int h_stop, .ref h_meant, .ref h_row, .ref h_exact, .ref h_error, .ref h_bestError, .long h_m, .int h_e, .ref h_digits, .int h_whole])), (h_output, .inl (cI, 1024, .inl u_17))] := hD
        refine lv_goto (tgt := 63) hx hb dX12_writeMonth_38 (by decide) ?_
        have hP9 := hP.sub (ws' := [(h, .inr (9, [.int h_code, .int h_taped, .ref h_tape, .int h_size, .ref h_text, .double h_value, .int u_16, .ref h_output, .int h_illAt, .ref h_format, .int h_sections, .int h_items, .ref h_kind, .ref h_what, .ref h_of, .ref h_relation, .ref h_bound, .int h_reads, .int h_readSections, .ref h_readKind, .ref h_readWhat, .ref h_readOf, .ref h_place, .ref h_readRelation, .ref h_readBound, .int h_stop, .ref h_meant, .ref h_row, .ref h_exact, .ref h_error, .ref h_bestError, .long h_m, .int h_e, .ref h_digits, .int h_whole])), (h_output, .inl (cI, 1024, .inl u_17))]) [0, 1] rfl
        have hD9 := hD.sub (ws' := [(h, .inr (9, [.int h_code, .int h_taped, .ref h_tape, .int h_size, .ref h_text, .double h_value, .int u_16, .ref h_output, .int h_illAt, .ref h_format, .int h_sections, .int h_items, .ref h_kind, .ref h_what, .ref h_of, .ref h_relation, .ref h_bound, .int h_reads, .int h_readSections, .ref h_readKind, .ref h_readWhat, .ref h_readOf, .ref h_place, .ref h_readRelation, .ref h_readBound, .int h_stop, .ref h_meant, .ref h_row, .ref h_exact, .ref h_error, .ref h_bestError, .long h_m, .int h_e, .ref h_digits, .int h_whole])), (h_output, .inl (cI, 1024, .inl u_17))]) [0, 1] (by decide) rfl
        exact W.vret hx hb hr (fun t ht hW => ⟨⟨(u_16, u_17), rfl, (by (try dsimp only); first | omega | assumption), by rw [ht]; exact hP9, va_K.moved hW.alike hK, hD9⟩, hS.F ht⟩) hS.2.2 dX12_writeMonth_63
      refine lv_icmp_ne (tgt := 34) hx hb dX12_writeMonth_27 (by decide) (fun c_18 => ?_) (fun c_18 => ?_)
      · have ic_18 : ¬ ((p2 : Int32).toInt = (3 : Int32).toInt) := fun h9 => c_18 ((fa_eq p2 3).mpr h9)
        refine lv_iconst (v := 1) hx hb dX12_writeMonth_34 (by decide) ?_
        exact hZ1 (K_35 1 _ _ _ hP hD hS (lv_sub hl [] rfl))
      · have ic_18 : (p2 : Int32).toInt = (3 : Int32).toInt := (fa_eq p2 3).mp c_18
        refine lv_iconst (v := 3) hx hb dX12_writeMonth_30 (by decide) ?_
        refine lv_goto (tgt := 35) hx hb dX12_writeMonth_31 (by decide) ?_
        exact hZ1 (K_35 3 _ _ _ hP hD hS (lv_sub hl [] rfl))
  · have ic_1 : ¬ ((3 : Int32).toInt ≤ (p2 : Int32).toInt) := fun h9 => c_1 ((fa_le 3 p2).mpr h9)
    refine lv_aload_n hx hb dX12_writeMonth_5 rfl (lv_at hl 0 rfl) ?_
    refine lv_iload_n hx hb dX12_writeMonth_6 rfl (lv_at hl 1 rfl) ?_
    refine lv_i2l hx hb dX12_writeMonth_7 rfl ?_
    refine lv_topl (fun y_19 ey_19 => ?_)
    have ty_19 := tl_i2l ey_19
    refine lv_iload_n hx hb dX12_writeMonth_8 rfl (lv_at hl 2 rfl) ?_
    have hPc := hP.sub (ws' := [(h, .inr (9, [.int h_code, .int h_taped, .ref h_tape, .int h_size, .ref h_text, .double h_value, .int h_out, .ref h_output, .int h_illAt, .ref h_format, .int h_sections, .int h_items, .ref h_kind, .ref h_what, .ref h_of, .ref h_relation, .ref h_bound, .int h_reads, .int h_readSections, .ref h_readKind, .ref h_readWhat, .ref h_readOf, .ref h_place, .ref h_readRelation, .ref h_readBound, .int h_stop, .ref h_meant, .ref h_row, .ref h_exact, .ref h_error, .ref h_bestError, .long h_m, .int h_e, .ref h_digits, .int h_whole])), (h_output, .inl (cI, 1024, .inl h_outputF))]) [0, 1] rfl
    have hDc := hD.sub (ws' := [(h, .inr (9, [.int h_code, .int h_taped, .ref h_tape, .int h_size, .ref h_text, .double h_value, .int h_out, .ref h_output, .int h_illAt, .ref h_format, .int h_sections, .int h_items, .ref h_kind, .ref h_what, .ref h_of, .ref h_relation, .ref h_bound, .int h_reads, .int h_readSections, .ref h_readKind, .ref h_readWhat, .ref h_readOf, .ref h_place, .ref h_readRelation, .ref h_readBound, .int h_stop, .ref h_meant, .ref h_row, .ref h_exact, .ref h_error, .ref h_bestError, .long h_m, .int h_e, .ref h_digits, .int h_whole])), (h_output, .inl (cI, 1024, .inl h_outputF))]) [0, 1] (by decide) rfl
    have hFc := va_free (wc := [(h, .inr (9, [.int h_code, .int h_taped, .ref h_tape, .int h_size, .ref h_text, .double h_value, .int h_out, .ref h_output, .int h_illAt, .ref h_format, .int h_sections, .int h_items, .ref h_kind, .ref h_what, .ref h_of, .ref h_relation, .ref h_bound, .int h_reads, .int h_readSections, .ref h_readKind, .ref h_readWhat, .ref h_readOf, .ref h_place, .ref h_readRelation, .ref h_readBound, .int h_stop, .ref h_meant, .ref h_row, .ref h_exact, .ref h_error, .ref h_bestError, .long h_m, .int h_e, .ref h_digits, .int h_whole])), (h_output, .inl (cI, 1024, .inl h_outputF))]) hD hS hA [0, 1] rfl
    refine va_callv (va_runV (As := [.long y_19, .int p2]) (rest := []) ⟨hx, hb, hml, hown, hts⟩ (c_X12_writeNumber l D cI cD cJ s.heap.size h h_code h_taped h_tape h_size h_text h_value h_out h_output h_illAt h_format h_sections h_items h_kind h_what h_of h_relation h_bound h_reads h_readSections h_readKind h_readWhat h_readOf h_place h_readRelation h_readBound h_stop h_meant h_row h_exact h_error h_bestError h_m h_e h_digits h_whole h_outputF y_19 p2 (by omega) (by omega) (by assumption) (by omega) (by omega) (by omega) (by omega) (by omega) (by omega)) (cwV 2 hts (goodIn_app (goodIn_r _ [10, 11, 12, 3] rfl (by decide +kernel)) (goodIn_sub i_X12_writeNumber k_X12_writeNumber)) rfl rfl rfl (by decide +kernel) ⟨Nat.le_of_ble_eq_true rfl, Nat.le_of_ble_eq_true rfl⟩) ⟨fun a U g mk q => by obtain ⟨q0, q1, qP, qK, qD⟩ := q; exact ⟨q0, q1, qP, va_K.moved (u := U) (U := U.calling g mk a) (Vm.Alike.refl U.vm) qK, qD⟩, va_recv hK hPc (ci := 9) (q0 := 0) rfl rfl, fun U hU hW => ⟨rfl, by rw [hU], by rw [hU]; exact hPc, va_K.moved hW.alike hK, hDc.weaken (fun _ _ _ _ => trivial)⟩⟩ rfl rfl hl.1 rfl (lv_room (Nat.le_of_ble_eq_true rfl)) dX12_writeMonth_9 ⟨Nat.le_of_ble_eq_true rfl, Nat.le_of_ble_eq_true rfl⟩) hS (fun q _ h => hFc q h) hFc (fun u t H1 locs ht hvm w_20 hB hz1 hk1 hS => ?_)
    obtain ⟨u_21, u_22⟩ := u
    obtain ⟨hP1, hK1, hD1⟩ := hB
    rw [ht] at hP1
    try dsimp only at w_20
    obtain ⟨hP, hD⟩ := va_join (wr := []) (w1 := [(h, .inr (9, [.int h_code, .int h_taped, .ref h_tape, .int h_size, .ref h_text, .double h_value, .int u_21, .ref h_output, .int h_illAt, .ref h_format, .int h_sections, .int h_items, .ref h_kind, .ref h_what, .ref h_of, .ref h_relation, .ref h_bound, .int h_reads, .int h_readSections, .ref h_readKind, .ref h_readWhat, .ref h_readOf, .ref h_place, .ref h_readRelation, .ref h_readBound, .int h_stop, .ref h_meant, .ref h_row, .ref h_exact, .ref h_error, .ref h_bestError, .long h_m, .int h_e, .ref h_digits, .int h_whole])), (h_output, .inl (cI, 1024, .inl u_22))]) hP hD [0, 1] [] rfl rfl (by decide) (by decide) hk1 hFc hP1 hD1
    generalize H1 = H at hP hS ⊢
    have hP : va_P D vwCl [(h, .inr (9, [.int h_code, .int h_taped, .ref h_tape, .int h_size, .ref h_text, .double h_value, .int u_21, .ref h_output, .int h_illAt, .ref h_format, .int h_sections, .int h_items, .ref h_kind, .ref h_what, .ref h_of, .ref h_relation, .ref h_bound, .int h_reads, .int h_readSections, .ref h_readKind, .ref h_readWhat, .ref h_readOf, .ref h_place, .ref h_readRelation, .ref h_readBound, .int h_stop, .ref h_meant, .ref h_row, .ref h_exact, .ref h_error, .ref h_bestError, .long h_m, .int h_e, .ref h_digits, .int h_whole])), (h_output, .inl (cI, 1024, .inl u_22))] H := hP
    have hD : va_D A [(h, .inr (9, [.int h_code, .int h_taped, .ref h_tape, .int h_size, .ref h_text, .double h_value, .int u_21, .ref h_output, .int h_illAt, .ref h_format, .int h_sections, .int h_items, .ref h_kind, .ref h_what, .ref h_of, .ref h_relation, .ref h_bound, .int h_reads, .int h_readSections, .ref h_readKind, .ref h_readWhat, .ref h_readOf, .ref h_place, .ref h_readRelation, .ref h_readBound, .int h_stop, .ref h_meant, .ref h_row, .ref h_exact, .ref h_error, .ref h_bestError, .long h_m, .int h_e, .ref h_digits, .int h_whole])), (h_output, .inl (cI, 1024, .inl u_22))] := hD
    refine lv_goto (tgt := 63) hx hb dX12_writeMonth_12 (by decide) ?_
    have hP9 := hP.sub (ws' := [(h, .inr (9, [.int h_code, .int h_taped, .ref h_tape, .int h_size, .ref h_text, .double h_value, .int u_21, .ref h_output, .int h_illAt, .ref h_format, .int h_sections, .int h_items, .ref h_kind, .ref h_what, .ref h_of, .ref h_relation, .ref h_bound, .int h_reads, .int h_readSections, .ref h_readKind, .ref h_readWhat, .ref h_readOf, .ref h_place, .ref h_readRelation, .ref h_readBound, .int h_stop, .ref h_meant, .ref h_row, .ref h_exact, .ref h_error, .ref h_bestError, .long h_m, .int h_e, .ref h_digits, .int h_whole])), (h_output, .inl (cI, 1024, .inl u_22))]) [0, 1] rfl
    have hD9 := hD.sub (ws' := [(h, .inr (9, [.int h_code, .int h_taped, .ref h_tape, .int h_size, .ref h_text, .double h_value, .int u_21, .ref h_output, .int h_illAt, .ref h_format, .int h_sections, .int h_items, .ref h_kind, .ref h_what, .ref h_of, .ref h_relation, .ref h_bound, .int h_reads, .int h_readSections, .ref h_readKind, .ref h_readWhat, .ref h_readOf, .ref h_place, .ref h_readRelation, .ref h_readBound, .int h_stop, .ref h_meant, .ref h_row, .ref h_exact, .ref h_error, .ref h_bestError, .long h_m, .int h_e, .ref h_digits, .int h_whole])), (h_output, .inl (cI, 1024, .inl u_22))]) [0, 1] (by decide) rfl
    exact W.vret hx hb hr (fun t ht hW => ⟨⟨(u_21, u_22), rfl, (by (try dsimp only); first | omega | assumption), by rw [ht]; exact hP9, va_K.moved hW.alike hK, hD9⟩, hS.F ht⟩) hS.2.2 dX12_writeMonth_63

def ow_X12_writeDay : List Cond := [Cond.methodLink RX12 278 yX12_write, Cond.instanceMethod yX12_write, Cond.selects RX12 yX12_write yX12_write, Cond.initialized RX12, Cond.methodLink RX12 400 yX12_dayName, Cond.static yX12_dayName, Cond.methodLink RX12 397 yX12_writeName, Cond.instanceMethod yX12_writeName, Cond.selects RX12 yX12_writeName yX12_writeName, Cond.methodLink RX12 287 yX12_writeNumber, Cond.instanceMethod yX12_writeNumber, Cond.selects RX12 yX12_writeNumber yX12_writeNumber]
def pw_X12_writeDay : List Cond := Cond.code yX12_writeDay cX12_writeDay 4 none :: (ow_X12_writeDay ++ (pw_X12_write ++ (pw_X12_dayName ++ (pw_X12_writeName ++ (pw_X12_writeNumber)))))
set_option maxRecDepth 20000 in
theorem mo_X12_writeDay : ∀ w ∈ ow_X12_writeDay, w ∈ lw_tbl := by decide +kernel
set_option maxRecDepth 20000 in
theorem mc_X12_writeDay : Cond.code yX12_writeDay cX12_writeDay 4 none ∈ lw_tbl := by decide +kernel
theorem m_X12_writeDay : ∀ w ∈ pw_X12_writeDay, w ∈ lw_tbl := List.forall_mem_cons.mpr ⟨mc_X12_writeDay, (List.forall_mem_append.mpr ⟨mo_X12_writeDay, (List.forall_mem_append.mpr ⟨m_X12_write, (List.forall_mem_append.mpr ⟨m_X12_dayName, (List.forall_mem_append.mpr ⟨m_X12_writeName, m_X12_writeNumber⟩)⟩)⟩)⟩)⟩
theorem ko_X12_writeDay : ∀ w ∈ ow_X12_writeDay, goodWord w = true := by decide +kernel
theorem k_X12_writeDay : pw_X12_writeDay.all goodWord = true := List.all_eq_true.mpr (List.forall_mem_cons.mpr ⟨by decide +kernel, (List.forall_mem_append.mpr ⟨ko_X12_writeDay, (List.forall_mem_append.mpr ⟨(List.all_eq_true.mp k_X12_write), (List.forall_mem_append.mpr ⟨(List.all_eq_true.mp k_X12_dayName), (List.forall_mem_append.mpr ⟨(List.all_eq_true.mp k_X12_writeName), (List.all_eq_true.mp k_X12_writeNumber)⟩)⟩)⟩)⟩)⟩)
set_option maxHeartbeats 400000 in
set_option maxRecDepth 100000 in
theorem c_X12_writeDay (l : Launch) (D : va_G) (cI cD cJ : ClassId) (sz : Nat) (h : Nat) (h_code : Int32) (h_taped : Int32) (h_tape : Nat) (h_size : Int32) (h_text : Nat) (h_value : UInt64) (h_out : Int32) (h_output : Nat) (h_illAt : Int32) (h_format : Nat) (h_sections : Int32) (h_items : Int32) (h_kind : Nat) (h_what : Nat) (h_of : Nat) (h_relation : Nat) (h_bound : Nat) (h_reads : Int32) (h_readSections : Int32) (h_readKind : Nat) (h_readWhat : Nat) (h_readOf : Nat) (h_place : Nat) (h_readRelation : Nat) (h_readBound : Nat) (h_stop : Int32) (h_meant : Nat) (h_row : Nat) (h_exact : Nat) (h_error : Nat) (h_bestError : Nat) (h_m : Int64) (h_e : Int32) (h_digits : Nat) (h_whole : Int32) (h_outputF : Nat → Int32) (p1 : Int32) (p2 : Int32) (p3 : Int32) (iv_h_taped : 0 ≤ (h_taped : Int32).toInt ∧ (h_taped : Int32).toInt ≤ 260) (iv_h_size : 0 ≤ (h_size : Int32).toInt ∧ (h_size : Int32).toInt ≤ 255) (iv_h_value : inR h_value) (iv_h_out : 0 ≤ (h_out : Int32).toInt ∧ (h_out : Int32).toInt ≤ 1024) (iv_h_sections : 0 ≤ (h_sections : Int32).toInt ∧ (h_sections : Int32).toInt ≤ 4) (iv_h_items : 0 ≤ (h_items : Int32).toInt ∧ (h_items : Int32).toInt ≤ 255) (iv_h_reads : 0 ≤ (h_reads : Int32).toInt ∧ (h_reads : Int32).toInt ≤ 255) (iv_h_readSections : 0 ≤ (h_readSections : Int32).toInt ∧ (h_readSections : Int32).toInt ≤ 4) (iv_h_whole : 0 ≤ (h_whole : Int32).toInt ∧ (h_whole : Int32).toInt ≤ 1001) : Met l yX12_writeDay pw_X12_writeDay ({ frames := 2, cells := 0, slots := 0, locals := 49 }) (va_Pc [.ref h, .int p1, .int p2, .int p3] (fun U => U.heap.size = sz ∧ va_P D vwCl [(h, .inr (9, [.int h_code, .int h_taped, .ref h_tape, .int h_size, .ref h_text, .double h_value, .int h_out, .ref h_output, .int h_illAt, .ref h_format, .int h_sections, .int h_items, .ref h_kind, .ref h_what, .ref h_of, .ref h_relation, .ref h_bound, .int h_reads, .int h_readSections, .ref h_readKind, .ref h_readWhat, .ref h_readOf, .ref h_place, .ref h_readRelation, .ref h_readBound, .int h_stop, .ref h_meant, .ref h_row, .ref h_exact, .ref h_error, .ref h_bestError, .long h_m, .int h_e, .ref h_digits, .int h_whole])), (h_output, .inl (cI, 1024, .inl h_outputF))] U.heap ∧ va_K D vwCl (ty3 cI cD cJ) U ∧ va_D (fun _ => True) [(h, .inr (9, [.int h_code, .int h_taped, .ref h_tape, .int h_size, .ref h_text, .double h_value, .int h_out, .ref h_output, .int h_illAt, .ref h_format, .int h_sections, .int h_items, .ref h_kind, .ref h_what, .ref h_of, .ref h_relation, .ref h_bound, .int h_reads, .int h_readSections, .ref h_readKind, .ref h_readWhat, .ref h_readOf, .ref h_place, .ref h_readRelation, .ref h_readBound, .int h_stop, .ref h_meant, .ref h_row, .ref h_exact, .ref h_error, .ref h_bestError, .long h_m, .int h_e, .ref h_digits, .int h_whole])), (h_output, .inl (cI, 1024, .inl h_outputF))])) (va_Qv (fun (u : Int32 × (Nat → Int32)) => match u with | (h_out2, h_outputF2) => (0 ≤ (h_out2 : Int32).toInt ∧ (h_out2 : Int32).toInt ≤ 1024)) (fun (u : Int32 × (Nat → Int32)) (t : State) => match u with | (h_out2, h_outputF2) => va_P D vwCl [(h, .inr (9, [.int h_code, .int h_taped, .ref h_tape, .int h_size, .ref h_text, .double h_value, .int h_out2, .ref h_output, .int h_illAt, .ref h_format, .int h_sections, .int h_items, .ref h_kind, .ref h_what, .ref h_of, .ref h_relation, .ref h_bound, .int h_reads, .int h_readSections, .ref h_readKind, .ref h_readWhat, .ref h_readOf, .ref h_place, .ref h_readRelation, .ref h_readBound, .int h_stop, .ref h_meant, .ref h_row, .ref h_exact, .ref h_error, .ref h_bestError, .long h_m, .int h_e, .ref h_digits, .int h_whole])), (h_output, .inl (cI, 1024, .inl h_outputF2))] t.heap ∧ va_K D vwCl (ty3 cI cD cJ) t ∧ va_D (va_A [(h, .inr (9, [.int h_code, .int h_taped, .ref h_tape, .int h_size, .ref h_text, .double h_value, .int h_out, .ref h_output, .int h_illAt, .ref h_format, .int h_sections, .int h_items, .ref h_kind, .ref h_what, .ref h_of, .ref h_relation, .ref h_bound, .int h_reads, .int h_readSections, .ref h_readKind, .ref h_readWhat, .ref h_readOf, .ref h_place, .ref h_readRelation, .ref h_readBound, .int h_stop, .ref h_meant, .ref h_row, .ref h_exact, .ref h_error, .ref h_bestError, .long h_m, .int h_e, .ref h_digits, .int h_whole])), (h_output, .inl (cI, 1024, .inl h_outputF))] sz) [(h, .inr (9, [.int h_code, .int h_taped, .ref h_tape, .int h_size, .ref h_text, .double h_value, .int h_out2, .ref h_output, .int h_illAt, .ref h_format, .int h_sections, .int h_items, .ref h_kind, .ref h_what, .ref h_of, .ref h_relation, .ref h_bound, .int h_reads, .int h_readSections, .ref h_readKind, .ref h_readWhat, .ref h_readOf, .ref h_place, .ref h_readRelation, .ref h_readBound, .int h_stop, .ref h_meant, .ref h_row, .ref h_exact, .ref h_error, .ref h_bestError, .long h_m, .int h_e, .ref h_digits, .int h_whole])), (h_output, .inl (cI, 1024, .inl h_outputF2))]) (va_A [(h, .inr (9, [.int h_code, .int h_taped, .ref h_tape, .int h_size, .ref h_text, .double h_value, .int h_out, .ref h_output, .int h_illAt, .ref h_format, .int h_sections, .int h_items, .ref h_kind, .ref h_what, .ref h_of, .ref h_relation, .ref h_bound, .int h_reads, .int h_readSections, .ref h_readKind, .ref h_readWhat, .ref h_readOf, .ref h_place, .ref h_readRelation, .ref h_readBound, .int h_stop, .ref h_meant, .ref h_row, .ref h_exact, .ref h_error, .ref h_bestError, .long h_m, .int h_e, .ref h_digits, .int h_whole])), (h_output, .inl (cI, 1024, .inl h_outputF))] sz)) 0 0 (va_A [(h, .inr (9, [.int h_code, .int h_taped, .ref h_tape, .int h_size, .ref h_text, .double h_value, .int h_out, .ref h_output, .int h_illAt, .ref h_format, .int h_sections, .int h_items, .ref h_kind, .ref h_what, .ref h_of, .ref h_relation, .ref h_bound, .int h_reads, .int h_readSections, .ref h_readKind, .ref h_readWhat, .ref h_readOf, .ref h_place, .ref h_readRelation, .ref h_readBound, .int h_stop, .ref h_meant, .ref h_row, .ref h_exact, .ref h_error, .ref h_bestError, .long h_m, .int h_e, .ref h_digits, .int h_whole])), (h_output, .inl (cI, 1024, .inl h_outputF))] sz) := by
  refine Met.ofW (cc := cX12_writeDay) (maxL := 4) (ret := none) (by decide +kernel) rfl ?_
  intro p e s m args below meth c s₁ B hml hv
  obtain ⟨rfl, hsz, hP, hK, hD0⟩ := hv
  have hx := B.exec
  have hb := B.bytes
  have hr := B.returns
  have hts := atoms_spec (ws := pw_X12_writeDay) B.pre
  have hown : s.vm.findClass RX12 = some m.cls := findClass_of_methodNamed B.named
  have hlocks := B.notSynchronized
  subst hsz
  have hD := hD0.self (sz := s.heap.size)
  generalize hAe : va_A [(h, .inr (9, [.int h_code, .int h_taped, .ref h_tape, .int h_size, .ref h_text, .double h_value, .int h_out, .ref h_output, .int h_illAt, .ref h_format, .int h_sections, .int h_items, .ref h_kind, .ref h_what, .ref h_of, .ref h_relation, .ref h_bound, .int h_reads, .int h_readSections, .ref h_readKind, .ref h_readWhat, .ref h_readOf, .ref h_place, .ref h_readRelation, .ref h_readBound, .int h_stop, .ref h_meant, .ref h_row, .ref h_exact, .ref h_error, .ref h_bestError, .long h_m, .int h_e, .ref h_digits, .int h_whole])), (h_output, .inl (cI, 1024, .inl h_outputF))] s.heap.size = A at hD ⊢
  have hA : ∀ q : Nat, s.heap.size ≤ q → A q := fun q h => by rw [← hAe]; exact Or.inr h
  have hS : va_S A s.heap s.heap [] := va_S.rf
  have hw : ∀ (k : Nat) (w : Cond), ow_X12_writeDay[k]? = some w → w.before _ s = true := fun k w h => hts w (List.mem_cons_of_mem _ (have h9 := List.mem_of_getElem? h; List.mem_append_left _ h9))
  have i_X12_write : ∀ w ∈ pw_X12_write, w ∈ pw_X12_writeDay := fun w h9 => List.mem_cons_of_mem _ (List.mem_append_right _ (List.mem_append_left _ h9))
  have i_X12_dayName : ∀ w ∈ pw_X12_dayName, w ∈ pw_X12_writeDay := fun w h9 => List.mem_cons_of_mem _ (List.mem_append_right _ (List.mem_append_right _ (List.mem_append_left _ h9)))
  have i_X12_writeName : ∀ w ∈ pw_X12_writeName, w ∈ pw_X12_writeDay := fun w h9 => List.mem_cons_of_mem _ (List.mem_append_right _ (List.mem_append_right _ (List.mem_append_right _ (List.mem_append_left _ h9))))
  have i_X12_writeNumber : ∀ w ∈ pw_X12_writeNumber, w ∈ pw_X12_writeDay := fun w h9 => List.mem_cons_of_mem _ (List.mem_append_right _ (List.mem_append_right _ (List.mem_append_right _ (List.mem_append_right _ (h9)))))
  have n_121 : ((121 : Int32)).toInt = 121 := by decide
  have n_3 : ((3 : Int32)).toInt = 3 := by decide
  have n_4 : ((4 : Int32)).toInt = 4 := by decide
  have n_8 : ((8 : Int32)).toInt = 8 := by decide
  have hl := lv_entry ([.ref h, .int p1, .int p2, .int p3]) (n := 4) (Nat.le_of_ble_eq_true rfl)
  rw [lg_entry_eq]
  generalize (lg_sl ([.ref h, .int p1, .int p2, .int p3]) ++ List.replicate (4 - (lg_sl ([.ref h, .int p1, .int p2, .int p3])).length) Slot.unset).toArray = ls at hl ⊢
  have hl : lv_has ls 4 [(0, .ref h), (1, .int p1), (2, .int p2), (3, .int p3)] := hl
  have b_p1 := ti_b p1
  have b_p2 := ti_b p2
  have b_p3 := ti_b p3
  refine zz_cap (fun Z hZ1 hZ2 => ?_)
  refine lv_iload_n hx hb dX12_writeDay_0 rfl (lv_at hl 3 rfl) ?_
  refine lv_iconst (v := 3) hx hb dX12_writeDay_1 (by decide) ?_
  have K_34 : ∀ (x_1 : Int32) (f_2 : Nat → Int32) (H : Heap) (locs : List Loc) (ls : Array Slot), (0 ≤ (x_1 : Int32).toInt ∧ (x_1 : Int32).toInt ≤ 1024) → va_P D vwCl [(h, .inr (9, [.int h_code, .int h_taped, .ref h_tape, .int h_size, .ref h_text, .double h_value, .int x_1, .ref h_output, .int h_illAt, .ref h_format, .int h_sections, .int h_items, .ref h_kind, .ref h_what, .ref h_of, .ref h_relation, .ref h_bound, .int h_reads, .int h_readSections, .ref h_readKind, .ref h_readWhat, .ref h_readOf, .ref h_place, .ref h_readRelation, .ref h_readBound, .int h_stop, .ref h_meant, .ref h_row, .ref h_exact, .ref h_error, .ref h_bestError, .long h_m, .int h_e, .ref h_digits, .int h_whole])), (h_output, .inl (cI, 1024, .inl f_2))] H → va_D A [(h, .inr (9, [.int h_code, .int h_taped, .ref h_tape, .int h_size, .ref h_text, .double h_value, .int x_1, .ref h_output, .int h_illAt, .ref h_format, .int h_sections, .int h_items, .ref h_kind, .ref h_what, .ref h_of, .ref h_relation, .ref h_bound, .int h_reads, .int h_readSections, .ref h_readKind, .ref h_readWhat, .ref h_readOf, .ref h_place, .ref h_readRelation, .ref h_readBound, .int h_stop, .ref h_meant, .ref h_row, .ref h_exact, .ref h_error, .ref h_bestError, .long h_m, .int h_e, .ref h_digits, .int h_whole])), (h_output, .inl (cI, 1024, .inl f_2))] → va_S A s.heap H locs → lv_has ls 4 [(0, .ref h), (1, .int p1), (3, .int p3)] → Z 0 0 H locs (F0 m 34 ls []) := by
    intro x_1 f_2 H locs ls g34_0 hP hD hS hl
    refine hZ2 ?_
    refine lv_iload_n hx hb dX12_writeDay_34 rfl (lv_at hl 2 rfl) ?_
    refine lv_iconst (v := 4) hx hb dX12_writeDay_35 (by decide) ?_
    refine lv_icmp_ne (tgt := 50) hx hb dX12_writeDay_36 (by decide) (fun c_3 => ?_) (fun c_3 => ?_)
    · have ic_3 : ¬ ((p3 : Int32).toInt = (4 : Int32).toInt) := fun h9 => c_3 ((fa_eq p3 4).mpr h9)
      have hP9 := hP.sub (ws' := [(h, .inr (9, [.int h_code, .int h_taped, .ref h_tape, .int h_size, .ref h_text, .double h_value, .int x_1, .ref h_output, .int h_illAt, .ref h_format, .int h_sections, .int h_items, .ref h_kind, .ref h_what, .ref h_of, .ref h_relation, .ref h_bound, .int h_reads, .int h_readSections, .ref h_readKind, .ref h_readWhat, .ref h_readOf, .ref h_place, .ref h_readRelation, .ref h_readBound, .int h_stop, .ref h_meant, .ref h_row, .ref h_exact, .ref h_error, .ref h_bestError, .long h_m, .int h_e, .ref h_digits, .int h_whole])), (h_output, .inl (cI, 1024, .inl f_2))]) [0, 1] rfl
      have hD9 := hD.sub (ws' := [(h, .inr (9, [.int h_code, .int h_taped, .ref h_tape, .int h_size, .ref h_text, .double h_value, .int x_1, .ref h_output, .int h_illAt, .ref h_format, .int h_sections, .int h_items, .ref h_kind, .ref h_what, .ref h_of, .ref h_relation, .ref h_bound, .int h_reads, .int h_readSections, .ref h_readKind, .ref h_readWhat, .ref h_readOf, .ref h_place, .ref h_readRelation, .ref h_readBound, .int h_stop, .ref h_meant, .ref h_row, .ref h_exact, .ref h_error, .ref h_bestError, .long h_m, .int h_e, .ref h_digits, .int h_whole])), (h_output, .inl (cI, 1024, .inl f_2))]) [0, 1] (by decide) rfl
      exact W.vret hx hb hr (fun t ht hW => ⟨⟨(x_1, f_2), rfl, (by (try dsimp only); first | omega | assumption), by rw [ht]; exact hP9, va_K.moved hW.alike hK, hD9⟩, hS.F ht⟩) hS.2.2 dX12_writeDay_50
    · have ic_3 : (p3 : Int32).toInt = (4 : Int32).toInt := (fa_eq p3 4).mp c_3
      refine lv_iload_n hx hb dX12_writeDay_39 rfl (lv_at hl 1 rfl) ?_
      refine lv_iconst (v := 4) hx hb dX12_writeDay_40 (by decide) ?_
      refine lv_icmp_ne (tgt := 50) hx hb dX12_writeDay_41 (by decide) (fun c_4 => ?_) (fun c_4 => ?_)
      · have ic_4 : ¬ ((p1 : Int32).toInt = (4 : Int32).toInt) := fun h9 => c_4 ((fa_eq p1 4).mpr h9)
        have hP9 := hP.sub (ws' := [(h, .inr (9, [.int h_code, .int h_taped, .ref h_tape, .int h_size, .ref h_text, .double h_value, .int x_1, .ref h_output, .int h_illAt, .ref h_format, .int h_sections, .int h_items, .ref h_kind, .ref h_what, .ref h_of, .ref h_relation, .ref h_bound, .int h_reads, .int h_readSections, .ref h_readKind, .ref h_readWhat, .ref h_readOf, .ref h_place, .ref h_readRelation, .ref h_readBound, .int h_stop, .ref h_meant, .ref h_row, .ref h_exact, .ref h_error, .ref h_bestError, .long h_m, .int h_e, .ref h_digits, .int h_whole])), (h_output, .inl (cI, 1024, .inl f_2))]) [0, 1] rfl
        have hD9 := hD.sub (ws' := [(h, .inr (9, [.int h_code, .int h_taped, .ref h_tape, .int h_size, .ref h_text, .double h_value, .int x_1, .ref h_output, .int h_illAt, .ref h_format, .int h_sections, .int h_items, .ref h_kind, .ref h_what, .ref h_of, .ref h_relation, .ref h_bound, .int h_reads, .int h_readSections, .ref h_readKind, .ref h_readWhat, .ref h_readOf, .ref h_place, .ref h_readRelation, .ref h_readBound, .int h_stop, .ref h_meant, .ref h_row, .ref h_exact, .ref h_error, .ref h_bestError, .long h_m, .int h_e, .ref h_digits, .int h_whole])), (h_output, .inl (cI, 1024, .inl f_2))]) [0, 1] (by decide) rfl
        exact W.vret hx hb hr (fun t ht hW => ⟨⟨(x_1, f_2), rfl, (by (try dsimp only); first | omega | assumption), by rw [ht]; exact hP9, va_K.moved hW.alike hK, hD9⟩, hS.F ht⟩) hS.2.2 dX12_writeDay_50
      · have ic_4 : (p1 : Int32).toInt = (4 : Int32).toInt := (fa_eq p1 4).mp c_4
        refine lv_aload_n hx hb dX12_writeDay_44 rfl (lv_at hl 0 rfl) ?_
        refine lv_bipush (v := 121) hx hb dX12_writeDay_45 (by decide) ?_
        have hPc := hP.sub (ws' := [(h, .inr (9, [.int h_code, .int h_taped, .ref h_tape, .int h_size, .ref h_text, .double h_value, .int x_1, .ref h_output, .int h_illAt, .ref h_format, .int h_sections, .int h_items, .ref h_kind, .ref h_what, .ref h_of, .ref h_relation, .ref h_bound, .int h_reads, .int h_readSections, .ref h_readKind, .ref h_readWhat, .ref h_readOf, .ref h_place, .ref h_readRelation, .ref h_readBound, .int h_stop, .ref h_meant, .ref h_row, .ref h_exact, .ref h_error, .ref h_bestError, .long h_m, .int h_e, .ref h_digits, .int h_whole])), (h_output, .inl (cI, 1024, .inl f_2))]) [0, 1] rfl
        have hDc := hD.sub (ws' := [(h, .inr (9, [.int h_code, .int h_taped, .ref h_tape, .int h_size, .ref h_text, .double h_value, .int x_1, .ref h_output, .int h_illAt, .ref h_format, .int h_sections, .int h_items, .ref h_kind, .ref h_what, .ref h_of, .ref h_relation, .ref h_bound, .int h_reads, .int h_readSections, .ref h_readKind, .ref h_readWhat, .ref h_readOf, .ref h_place, .ref h_readRelation, .ref h_readBound, .int h_stop, .ref h_meant, .ref h_row, .ref h_exact, .ref h_error, .ref h_bestError, .long h_m, .int h_e, .ref h_digits, .int h_whole])), (h_output, .inl (cI, 1024, .inl f_2))]) [0, 1] (by decide) rfl
        have hFc := va_free (wc := [(h, .inr (9, [.int h_code, .int h_taped, .ref h_tape, .int h_size, .ref h_text, .double h_value, .int x_1, .ref h_output, .int h_illAt, .ref h_format, .int h_sections, .int h_items, .ref h_kind, .ref h_what, .ref h_of, .ref h_relation, .ref h_bound, .int h_reads, .int h_readSections, .ref h_readKind, .ref h_readWhat, .ref h_readOf, .ref h_place, .ref h_readRelation, .ref h_readBound, .int h_stop, .ref h_meant, .ref h_row, .ref h_exact, .ref h_error, .ref h_bestError, .long h_m, .int h_e, .ref h_digits, .int h_whole])), (h_output, .inl (cI, 1024, .inl f_2))]) hD hS hA [0, 1] rfl
        refine va_callv (va_runV (As := [.int 121]) (rest := []) ⟨hx, hb, hml, hown, hts⟩ (c_X12_write l D cI cD cJ H.size h h_code h_taped h_tape h_size h_text h_value x_1 h_output h_illAt h_format h_sections h_items h_kind h_what h_of h_relation h_bound h_reads h_readSections h_readKind h_readWhat h_readOf h_place h_readRelation h_readBound h_stop h_meant h_row h_exact h_error h_bestError h_m h_e h_digits h_whole f_2 121 (by omega) (by omega) (by assumption) (by omega) (by omega) (by omega) (by omega) (by omega) (by omega)) (cwV 1 hts (goodIn_app (goodIn_r _ [1, 2, 3, 4] rfl (by decide +kernel)) (goodIn_sub i_X12_write k_X12_write)) rfl rfl rfl (by decide +kernel) ⟨Nat.le_of_ble_eq_true rfl, Nat.le_of_ble_eq_true rfl⟩) ⟨fun a U g mk q => by obtain ⟨q0, q1, qP, qK, qD⟩ := q; exact ⟨q0, q1, qP, va_K.moved (u := U) (U := U.calling g mk a) (Vm.Alike.refl U.vm) qK, qD⟩, va_recv hK hPc (ci := 9) (q0 := 0) rfl rfl, fun U hU hW => ⟨rfl, by rw [hU], by rw [hU]; exact hPc, va_K.moved hW.alike hK, hDc.weaken (fun _ _ _ _ => trivial)⟩⟩ rfl rfl hl.1 rfl (lv_room (Nat.le_of_ble_eq_true rfl)) dX12_writeDay_47 ⟨Nat.le_of_ble_eq_true rfl, Nat.le_of_ble_eq_true rfl⟩) hS (fun q _ h => hFc q h) hFc (fun u t H1 locs ht hvm w_5 hB hz1 hk1 hS => ?_)
        obtain ⟨u_6, u_7⟩ := u
        obtain ⟨hP1, hK1, hD1⟩ := hB
        rw [ht] at hP1
        try dsimp only at w_5
        obtain ⟨hP, hD⟩ := va_join (wr := []) (w1 := [(h, .inr (9, [.int h_code, .int h_taped, .ref h_tape, .int h_size, .ref h_text, .double h_value, .int u_6, .ref h_output, .int h_illAt, .ref h_format, .int h_sections, .int h_items, .ref h_kind, .ref h_what, .ref h_of, .ref h_relation, .ref h_bound, .int h_reads, .int h_readSections, .ref h_readKind, .ref h_readWhat, .ref h_readOf, .ref h_place, .ref h_readRelation, .ref h_readBound, .int h_stop, .ref h_meant, .ref h_row, .ref h_exact, .ref h_error, .ref h_bestError, .long h_m, .int h_e, .ref h_digits, .int h_whole])), (h_output, .inl (cI, 1024, .inl u_7))]) hP hD [0, 1] [] rfl rfl (by decide) (by decide) hk1 hFc hP1 hD1
        generalize H1 = H at hP hS ⊢
        have hP : va_P D vwCl [(h, .inr (9, [.int h_code, .int h_taped, .ref h_tape, .int h_size, .ref h_text, .double h_value, .int u_6, .ref h_output, .int h_illAt, .ref h_format, .int h_sections, .int h_items, .ref h_kind, .ref h_what, .ref h_of, .ref h_relation, .ref h_bound, .int h_reads, .int h_readSections, .ref h_readKind, .ref h_readWhat, .ref h_readOf, .ref h_place, .ref h_readRelation, .ref h_readBound, .int h_stop, .ref h_meant, .ref h_row, .ref h_exact, .ref h_error, .ref h_bestError, .long h_m, .int h_e, .ref h_digits, .int h_whole])), (h_output, .inl (cI, 1024, .inl u_7))] H := hP
        have hD : va_D A [(h, .inr (9, [.int h_code, .int h_taped, .ref h_tape, .int h_size, .ref h_text, .double h_value, .int u_6, .ref h_output, .int h_illAt, .ref h_format, .int h_sections, .int h_items, .ref h_kind, .ref h_what, .ref h_of, .ref h_relation, .ref h_bound, .int h_reads, .int h_readSections, .ref h_readKind, .ref h_readWhat, .ref h_readOf, .ref h_place, .ref h_readRelation, .ref h_readBound, .int h_stop, .ref h_meant, .ref h_row, .ref h_exact, .ref h_error, .ref h_bestError, .long h_m, .int h_e, .ref h_digits, .int h_whole])), (h_output, .inl (cI, 1024, .inl u_7))] := hD
        have hP9 := hP.sub (ws' := [(h, .inr (9, [.int h_code, .int h_taped, .ref h_tape, .int h_size, .ref h_text, .double h_value, .int u_6, .ref h_output, .int h_illAt, .ref h_format, .int h_sections, .int h_items, .ref h_kind, .ref h_what, .ref h_of, .ref h_relation, .ref h_bound, .int h_reads, .int h_readSections, .ref h_readKind, .ref h_readWhat, .ref h_readOf, .ref h_place, .ref h_readRelation, .ref h_readBound, .int h_stop, .ref h_meant, .ref h_row, .ref h_exact, .ref h_error, .ref h_bestError, .long h_m, .int h_e, .ref h_digits, .int h_whole])), (h_output, .inl (cI, 1024, .inl u_7))]) [0, 1] rfl
        have hD9 := hD.sub (ws' := [(h, .inr (9, [.int h_code, .int h_taped, .ref h_tape, .int h_size, .ref h_text, .double h_value, .int u_6, .ref h_output, .int h_illAt, .ref h_format, .int h_sections, .int h_items, .ref h_kind, .ref h_what, .ref h_of, .ref h_relation, .ref h_bound, .int h_reads, .int h_readSections, .ref h_readKind, .ref h_readWhat, .ref h_readOf, .ref h_place, .ref h_readRelation, .ref h_readBound, .int h_stop, .ref h_meant, .ref h_row, .ref h_exact, .ref h_error, .ref h_bestError, .long h_m, .int h_e, .ref h_digits, .int h_whole])), (h_output, .inl (cI, 1024, .inl u_7))]) [0, 1] (by decide) rfl
        exact W.vret hx hb hr (fun t ht hW => ⟨⟨(u_6, u_7), rfl, (by (try dsimp only); first | omega | assumption), by rw [ht]; exact hP9, va_K.moved hW.alike hK, hD9⟩, hS.F ht⟩) hS.2.2 dX12_writeDay_50
  refine lv_icmp_ge (tgt := 15) hx hb dX12_writeDay_2 (by decide) (fun c_8 => ?_) (fun c_8 => ?_)
  · have ic_8 : (3 : Int32).toInt ≤ (p3 : Int32).toInt := (fa_le 3 p3).mp c_8
    refine lv_aload_n hx hb dX12_writeDay_15 rfl (lv_at hl 0 rfl) ?_
    refine lv_iload_n hx hb dX12_writeDay_16 rfl (lv_at hl 1 rfl) ?_
    have hPc := hP.sub (ws' := []) [] rfl
    refine va_calll (va_runS (As := [.int p1]) (rest := [.ref h]) ⟨hx, hb, hml, hown, hts⟩ (c_X12_dayName l D cI cD cJ s.heap.size p1) (va_cwS 1 hts (goodIn_app (goodIn_r _ [5, 6, 4] rfl (by decide +kernel)) (goodIn_sub i_X12_dayName k_X12_dayName)) rfl rfl rfl (by decide +kernel) ⟨Nat.le_of_ble_eq_true rfl, Nat.le_of_ble_eq_true rfl⟩) ⟨fun a U g mk q => by obtain ⟨q0, qP, qK⟩ := q; exact ⟨q0, qP, va_K.moved (u := U) (U := U.calling g mk a) (Vm.Alike.refl U.vm) qK⟩, fun U hU hW => ⟨rfl, by rw [hU]; exact hPc, va_K.moved hW.alike hK⟩⟩ rfl rfl hl.1 rfl (lv_room (Nat.le_of_ble_eq_true rfl)) dX12_writeDay_17 ⟨Nat.le_of_ble_eq_true rfl, Nat.le_of_ble_eq_true rfl⟩) hS (fun q _ h => h.elim) (fun q h => h.elim) (fun y_9 u t H1 locs ht hvm w_10 hB hz1 hk1 hS => ?_)
    have hP : va_P D vwCl [(h, .inr (9, [.int h_code, .int h_taped, .ref h_tape, .int h_size, .ref h_text, .double h_value, .int h_out, .ref h_output, .int h_illAt, .ref h_format, .int h_sections, .int h_items, .ref h_kind, .ref h_what, .ref h_of, .ref h_relation, .ref h_bound, .int h_reads, .int h_readSections, .ref h_readKind, .ref h_readWhat, .ref h_readOf, .ref h_place, .ref h_readRelation, .ref h_readBound, .int h_stop, .ref h_meant, .ref h_row, .ref h_exact, .ref h_error, .ref h_bestError, .long h_m, .int h_e, .ref h_digits, .int h_whole])), (h_output, .inl (cI, 1024, .inl h_outputF))] H1 := hP.kept (fun k9 q9 h9 => hk1 q9.1 (vx_lt hP h9) (fun h => h))
    generalize H1 = H at hP hS ⊢
    refine lv_iload_n hx hb dX12_writeDay_20 rfl (lv_at hl 3 rfl) ?_
    refine lv_iconst (v := 3) hx hb dX12_writeDay_21 (by decide) ?_
    have K_31 : ∀ (z_11 : Int32) (H : Heap) (locs : List Loc) (ls : Array Slot), va_P D vwCl [(h, .inr (9, [.int h_code, .int h_taped, .ref h_tape, .int h_size, .ref h_text, .double h_value, .int h_out, .ref h_output, .int h_illAt, .ref h_format, .int h_sections, .int h_items, .ref h_kind, .ref h_what, .ref h_of, .ref h_relation, .ref h_bound, .int h_reads, .int h_readSections, .ref h_readKind, .ref h_readWhat, .ref h_readOf, .ref h_place, .ref h_readRelation, .ref h_readBound, .int h_stop, .ref h_meant, .ref h_row, .ref h_exact, .ref h_error, .ref h_bestError, .long h_m, .int h_e, .ref h_digits, .int h_whole])), (h_output, .inl (cI, 1024, .inl h_outputF))] H → va_D A [(h, .inr (9, [.int h_code, .int h_taped, .ref h_tape, .int h_size, .ref h_text, .double h_value, .int h_out, .ref h_output, .int h_illAt, .ref h_format, .int h_sections, .int h_items, .ref h_kind, .ref h_what, .ref h_of, .ref h_relation, .ref h_bound, .int h_reads, .int h_readSections, .ref h_readKind, .ref h_readWhat, .ref h_readOf, .ref h_place, .ref h_readRelation, .ref h_readBound, .int h_stop, .ref h_meant, .ref h_row, .ref h_exact, .ref h_error, .ref h_bestError, .long h_m, .int h_e, .ref h_digits, .int h_whole])), (h_output, .inl (cI, 1024, .inl h_outputF))] → va_S A s.heap H locs → lv_has ls 4 [(0, .ref h), (1, .int p1), (3, .int p3)] → Z 0 0 H locs (F0 m 31 ls [.int z_11, .long y_9, .ref h]) := by
      intro z_11 H locs ls  hP hD hS hl
      refine hZ2 ?_
      have hPc := hP.sub (ws' := [(h, .inr (9, [.int h_code, .int h_taped, .ref h_tape, .int h_size, .ref h_text, .double h_value, .int h_out, .ref h_output, .int h_illAt, .ref h_format, .int h_sections, .int h_items, .ref h_kind, .ref h_what, .ref h_of, .ref h_relation, .ref h_bound, .int h_reads, .int h_readSections, .ref h_readKind, .ref h_readWhat, .ref h_readOf, .ref h_place, .ref h_readRelation, .ref h_readBound, .int h_stop, .ref h_meant, .ref h_row, .ref h_exact, .ref h_error, .ref h_bestError, .long h_m, .int h_e, .ref h_digits, .int h_whole])), (h_output, .inl (cI, 1024, .inl h_outputF))]) [0, 1] rfl
      have hDc := hD.sub (ws' := [(h, .inr (9, [.int h_code, .int h_taped, .ref h_tape, .int h_size, .ref h_text, .double h_value, .int h_out, .ref h_output, .int h_illAt, .ref h_format, .int h_sections, .int h_items, .ref h_kind, .ref h_what, .ref h_of, .ref h_relation, .ref h_bound, .int h_reads, .int h_readSections, .ref h_readKind, .ref h_readWhat, .ref h_readOf, .ref h_place, .ref h_readRelation, .ref h_readBound, .int h_stop, .ref h_meant, .ref h_row, .ref h_exact, .ref h_error, .ref h_bestError, .long h_m, .int h_e, .ref h_digits, .int h_whole])), (h_output, .inl (cI, 1024, .inl h_outputF))]) [0, 1] (by decide) rfl
      have hFc := va_free (wc := [(h, .inr (9, [.int h_code, .int h_taped, .ref h_tape, .int h_size, .ref h_text, .double h_value, .int h_out, .ref h_output, .int h_illAt, .ref h_format, .int h_sections, .int h_items, .ref h_kind, .ref h_what, .ref h_of, .ref h_relation, .ref h_bound, .int h_reads, .int h_readSections, .ref h_readKind, .ref h_readWhat, .ref h_readOf, .ref h_place, .ref h_readRelation, .ref h_readBound, .int h_stop, .ref h_meant, .ref h_row, .ref h_exact, .ref h_error, .ref h_bestError, .long h_m, .int h_e, .ref h_digits, .int h_whole])), (h_output, .inl (cI, 1024, .inl h_outputF))]) hD hS hA [0, 1] rfl
      refine va_callv (va_runV (As := [.long y_9, .int z_11]) (rest := []) ⟨hx, hb, hml, hown, hts⟩ (c_X12_writeName l D cI cD cJ H.size h h_code h_taped h_tape h_size h_text h_value h_out h_output h_illAt h_format h_sections h_items h_kind h_what h_of h_relation h_bound h_reads h_readSections h_readKind h_readWhat h_readOf h_place h_readRelation h_readBound h_stop h_meant h_row h_exact h_error h_bestError h_m h_e h_digits h_whole h_outputF y_9 z_11 (by omega) (by omega) (by assumption) (by omega) (by omega) (by omega) (by omega) (by omega) (by omega)) (cwV 2 hts (goodIn_app (goodIn_r _ [7, 8, 9, 4] rfl (by decide +kernel)) (goodIn_sub i_X12_writeName k_X12_writeName)) rfl rfl rfl (by decide +kernel) ⟨Nat.le_of_ble_eq_true rfl, Nat.le_of_ble_eq_true rfl⟩) ⟨fun a U g mk q => by obtain ⟨q0, q1, qP, qK, qD⟩ := q; exact ⟨q0, q1, qP, va_K.moved (u := U) (U := U.calling g mk a) (Vm.Alike.refl U.vm) qK, qD⟩, va_recv hK hPc (ci := 9) (q0 := 0) rfl rfl, fun U hU hW => ⟨rfl, by rw [hU], by rw [hU]; exact hPc, va_K.moved hW.alike hK, hDc.weaken (fun _ _ _ _ => trivial)⟩⟩ rfl rfl hl.1 rfl (lv_room (Nat.le_of_ble_eq_true rfl)) dX12_writeDay_31 ⟨Nat.le_of_ble_eq_true rfl, Nat.le_of_ble_eq_true rfl⟩) hS (fun q _ h => hFc q h) hFc (fun u t H1 locs ht hvm w_12 hB hz1 hk1 hS => ?_)
      obtain ⟨u_13, u_14⟩ := u
      obtain ⟨hP1, hK1, hD1⟩ := hB
      rw [ht] at hP1
      try dsimp only at w_12
      obtain ⟨hP, hD⟩ := va_join (wr := []) (w1 := [(h, .inr (9, [.int h_code, .int h_taped, .ref h_tape, .int h_size, .ref h_text, .double h_value, .int u_13, .ref h_output, .int h_illAt, .ref h_format, .int h_sections, .int h_items, .ref h_kind, .ref h_what, .ref h_of, .ref h_relation, .ref h_bound, .int h_reads, .int h_readSections, .ref h_readKind, .ref h_readWhat, .ref h_readOf, .ref h_place, .ref h_readRelation, .ref h_readBound, .int h_stop, .ref h_meant, .ref h_row, .ref h_exact, .ref h_error, .ref h_bestError, .long h_m, .int h_e, .ref h_digits, .int h_whole])), (h_output, .inl (cI, 1024, .inl u_14))]) hP hD [0, 1] [] rfl rfl (by decide) (by decide) hk1 hFc hP1 hD1
      generalize H1 = H at hP hS ⊢
      have hP : va_P D vwCl [(h, .inr (9, [.int h_code, .int h_taped, .ref h_tape, .int h_size, .ref h_text, .double h_value, .int u_13, .ref h_output, .int h_illAt, .ref h_format, .int h_sections, .int h_items, .ref h_kind, .ref h_what, .ref h_of, .ref h_relation, .ref h_bound, .int h_reads, .int h_readSections, .ref h_readKind, .ref h_readWhat, .ref h_readOf, .ref h_place, .ref h_readRelation, .ref h_readBound, .int h_stop, .ref h_meant, .ref h_row, .ref h_exact, .ref h_error, .ref h_bestError, .long h_m, .int h_e, .ref h_digits, .int h_whole])), (h_output, .inl (cI, 1024, .inl u_14))] H := hP
      have hD : va_D A [(h, .inr (9, [.int h_code, .int h_taped, .ref h_tape, .int h_size, .ref h_text, .double h_value, .int u_13, .ref h_output, .int h_illAt, .ref h_format, .int h_sections, .int h_items, .ref h_kind, .ref h_what, .ref h_of, .ref h_relation, .ref h_bound, .int h_reads, .int h_readSections, .ref h_readKind, .ref h_readWhat, .ref h_readOf, .ref h_place, .ref h_readRelation, .ref h_readBound, .int h_stop, .ref h_meant, .ref h_row, .ref h_exact, .ref h_error, .ref h_bestError, .long h_m, .int h_e, .ref h_digits, .int h_whole])), (h_output, .inl (cI, 1024, .inl u_14))] := hD
      exact hZ1 (K_34 u_13 u_14 _ _ _ (by omega) hP hD hS hl)
    refine lv_icmp_ne (tgt := 29) hx hb dX12_writeDay_22 (by decide) (fun c_15 => ?_) (fun c_15 => ?_)
    · have ic_15 : ¬ ((p3 : Int32).toInt = (3 : Int32).toInt) := fun h9 => c_15 ((fa_eq p3 3).mpr h9)
      refine lv_bipush (v := 8) hx hb dX12_writeDay_29 (by decide) ?_
      exact hZ1 (K_31 8 _ _ _ hP hD hS (lv_sub hl [0, 1, 3] rfl))
    · have ic_15 : (p3 : Int32).toInt = (3 : Int32).toInt := (fa_eq p3 3).mp c_15
      refine lv_iconst (v := 3) hx hb dX12_writeDay_25 (by decide) ?_
      refine lv_goto (tgt := 31) hx hb dX12_writeDay_26 (by decide) ?_
      exact hZ1 (K_31 3 _ _ _ hP hD hS (lv_sub hl [0, 1, 3] rfl))
  · have ic_8 : ¬ ((3 : Int32).toInt ≤ (p3 : Int32).toInt) := fun h9 => c_8 ((fa_le 3 p3).mpr h9)
    refine lv_aload_n hx hb dX12_writeDay_5 rfl (lv_at hl 0 rfl) ?_
    refine lv_iload_n hx hb dX12_writeDay_6 rfl (lv_at hl 2 rfl) ?_
    refine lv_i2l hx hb dX12_writeDay_7 rfl ?_
    refine lv_topl (fun y_16 ey_16 => ?_)
    have ty_16 := tl_i2l ey_16
    refine lv_iload_n hx hb dX12_writeDay_8 rfl (lv_at hl 3 rfl) ?_
    have hPc := hP.sub (ws' := [(h, .inr (9, [.int h_code, .int h_taped, .ref h_tape, .int h_size, .ref h_text, .double h_value, .int h_out, .ref h_output, .int h_illAt, .ref h_format, .int h_sections, .int h_items, .ref h_kind, .ref h_what, .ref h_of, .ref h_relation, .ref h_bound, .int h_reads, .int h_readSections, .ref h_readKind, .ref h_readWhat, .ref h_readOf, .ref h_place, .ref h_readRelation, .ref h_readBound, .int h_stop, .ref h_meant, .ref h_row, .ref h_exact, .ref h_error, .ref h_bestError, .long h_m, .int h_e, .ref h_digits, .int h_whole])), (h_output, .inl (cI, 1024, .inl h_outputF))]) [0, 1] rfl
    have hDc := hD.sub (ws' := [(h, .inr (9, [.int h_code, .int h_taped, .ref h_tape, .int h_size, .ref h_text, .double h_value, .int h_out, .ref h_output, .int h_illAt, .ref h_format, .int h_sections, .int h_items, .ref h_kind, .ref h_what, .ref h_of, .ref h_relation, .ref h_bound, .int h_reads, .int h_readSections, .ref h_readKind, .ref h_readWhat, .ref h_readOf, .ref h_place, .ref h_readRelation, .ref h_readBound, .int h_stop, .ref h_meant, .ref h_row, .ref h_exact, .ref h_error, .ref h_bestError, .long h_m, .int h_e, .ref h_digits, .int h_whole])), (h_output, .inl (cI, 1024, .inl h_outputF))]) [0, 1] (by decide) rfl
    have hFc := va_free (wc := [(h, .inr (9, [.int h_code, .int h_taped, .ref h_tape, .int h_size, .ref h_text, .double h_value, .int h_out, .ref h_output, .int h_illAt, .ref h_format, .int h_sections, .int h_items, .ref h_kind, .ref h_what, .ref h_of, .ref h_relation, .ref h_bound, .int h_reads, .int h_readSections, .ref h_readKind, .ref h_readWhat, .ref h_readOf, .ref h_place, .ref h_readRelation, .ref h_readBound, .int h_stop, .ref h_meant, .ref h_row, .ref h_exact, .ref h_error, .ref h_bestError, .long h_m, .int h_e, .ref h_digits, .int h_whole])), (h_output, .inl (cI, 1024, .inl h_outputF))]) hD hS hA [0, 1] rfl
    refine va_callv (va_runV (As := [.long y_16, .int p3]) (rest := []) ⟨hx, hb, hml, hown, hts⟩ (c_X12_writeNumber l D cI cD cJ s.heap.size h h_code h_taped h_tape h_size h_text h_value h_out h_output h_illAt h_format h_sections h_items h_kind h_what h_of h_relation h_bound h_reads h_readSections h_readKind h_readWhat h_readOf h_place h_readRelation h_readBound h_stop h_meant h_row h_exact h_error h_bestError h_m h_e h_digits h_whole h_outputF y_16 p3 (by omega) (by omega) (by assumption) (by omega) (by omega) (by omega) (by omega) (by omega) (by omega)) (cwV 2 hts (goodIn_app (goodIn_r _ [10, 11, 12, 4] rfl (by decide +kernel)) (goodIn_sub i_X12_writeNumber k_X12_writeNumber)) rfl rfl rfl (by decide +kernel) ⟨Nat.le_of_ble_eq_true rfl, Nat.le_of_ble_eq_true rfl⟩) ⟨fun a U g mk q => by obtain ⟨q0, q1, qP, qK, qD⟩ := q; exact ⟨q0, q1, qP, va_K.moved (u := U) (U := U.calling g mk a) (Vm.Alike.refl U.vm) qK, qD⟩, va_recv hK hPc (ci := 9) (q0 := 0) rfl rfl, fun U hU hW => ⟨rfl, by rw [hU], by rw [hU]; exact hPc, va_K.moved hW.alike hK, hDc.weaken (fun _ _ _ _ => trivial)⟩⟩ rfl rfl hl.1 rfl (lv_room (Nat.le_of_ble_eq_true rfl)) dX12_writeDay_9 ⟨Nat.le_of_ble_eq_true rfl, Nat.le_of_ble_eq_true rfl⟩) hS (fun q _ h => hFc q h) hFc (fun u t H1 locs ht hvm w_17 hB hz1 hk1 hS => ?_)
    obtain ⟨u_18, u_19⟩ := u
    obtain ⟨hP1, hK1, hD1⟩ := hB
    rw [ht] at hP1
    try dsimp only at w_17
    obtain ⟨hP, hD⟩ := va_join (wr := []) (w1 := [(h, .inr (9, [.int h_code, .int h_taped, .ref h_tape, .int h_size, .ref h_text, .double h_value, .int u_18, .ref h_output, .int h_illAt, .ref h_format, .int h_sections, .int h_items, .ref h_kind, .ref h_what, .ref h_of, .ref h_relation, .ref h_bound, .int h_reads, .int h_readSections, .ref h_readKind, .ref h_readWhat, .ref h_readOf, .ref h_place, .ref h_readRelation, .ref h_readBound, .int h_stop, .ref h_meant, .ref h_row, .ref h_exact, .ref h_error, .ref h_bestError, .long h_m, .int h_e, .ref h_digits, .int h_whole])), (h_output, .inl (cI, 1024, .inl u_19))]) hP hD [0, 1] [] rfl rfl (by decide) (by decide) hk1 hFc hP1 hD1
    generalize H1 = H at hP hS ⊢
    have hP : va_P D vwCl [(h, .inr (9, [.int h_code, .int h_taped, .ref h_tape, .int h_size, .ref h_text, .double h_value, .int u_18, .ref h_output, .int h_illAt, .ref h_format, .int h_sections, .int h_items, .ref h_kind, .ref h_what, .ref h_of, .ref h_relation, .ref h_bound, .int h_reads, .int h_readSections, .ref h_readKind, .ref h_readWhat, .ref h_readOf, .ref h_place, .ref h_readRelation, .ref h_readBound, .int h_stop, .ref h_meant, .ref h_row, .ref h_exact, .ref h_error, .ref h_bestError, .long h_m, .int h_e, .ref h_digits, .int h_whole])), (h_output, .inl (cI, 1024, .inl u_19))] H := hP
    have hD : va_D A [(h, .inr (9, [.int h_code, .int h_taped, .ref h_tape, .int h_size, .ref h_text, .double h_value, .int u_18, .ref h_output, .int h_illAt, .ref h_format, .int h_sections, .int h_items, .ref h_kind, .ref h_what, .ref h_of, .ref h_relation, .ref h_bound, .int h_reads, .int h_readSections, .ref h_readKind, .ref h_readWhat, .ref h_readOf, .ref h_place, .ref h_readRelation, .ref h_readBound, .int h_stop, .ref h_meant, .ref h_row, .ref h_exact, .ref h_error, .ref h_bestError, .long h_m, .int h_e, .ref h_digits, .int h_whole])), (h_output, .inl (cI, 1024, .inl u_19))] := hD
    refine lv_goto (tgt := 34) hx hb dX12_writeDay_12 (by decide) ?_
    exact hZ1 (K_34 u_18 u_19 _ _ _ (by omega) hP hD hS (lv_sub hl [0, 1, 3] rfl))

def ow_X12_letterBy : List Cond := [Cond.fieldLink RX12 29 "NumberFormatsModel" "what" "[I", Cond.fieldLink RX12 26 "NumberFormatsModel" "kind" "[I"]
def pw_X12_letterBy : List Cond := Cond.code yX12_letterBy cX12_letterBy 6 (some .int) :: (ow_X12_letterBy ++ (wsX120))
set_option maxRecDepth 20000 in
theorem mo_X12_letterBy : ∀ w ∈ ow_X12_letterBy, w ∈ lw_tbl := by decide +kernel
set_option maxRecDepth 20000 in
theorem mc_X12_letterBy : Cond.code yX12_letterBy cX12_letterBy 6 (some .int) ∈ lw_tbl := by decide +kernel
theorem m_X12_letterBy : ∀ w ∈ pw_X12_letterBy, w ∈ lw_tbl := List.forall_mem_cons.mpr ⟨mc_X12_letterBy, (List.forall_mem_append.mpr ⟨mo_X12_letterBy, inX12⟩)⟩
theorem ko_X12_letterBy : ∀ w ∈ ow_X12_letterBy, goodWord w = true := by decide +kernel
theorem k_X12_letterBy : pw_X12_letterBy.all goodWord = true := List.all_eq_true.mpr (List.forall_mem_cons.mpr ⟨by decide +kernel, (List.forall_mem_append.mpr ⟨ko_X12_letterBy, kX_X12⟩)⟩)
set_option maxHeartbeats 400000 in
set_option maxRecDepth 100000 in
theorem c_X12_letterBy (l : Launch) (D : va_G) (cI cD cJ : ClassId) (sz : Nat) (h : Nat) (h_code : Int32) (h_taped : Int32) (h_tape : Nat) (h_size : Int32) (h_text : Nat) (h_value : UInt64) (h_out : Int32) (h_output : Nat) (h_illAt : Int32) (h_format : Nat) (h_sections : Int32) (h_items : Int32) (h_kind : Nat) (h_what : Nat) (h_of : Nat) (h_relation : Nat) (h_bound : Nat) (h_reads : Int32) (h_readSections : Int32) (h_readKind : Nat) (h_readWhat : Nat) (h_readOf : Nat) (h_place : Nat) (h_readRelation : Nat) (h_readBound : Nat) (h_stop : Int32) (h_meant : Nat) (h_row : Nat) (h_exact : Nat) (h_error : Nat) (h_bestError : Nat) (h_m : Int64) (h_e : Int32) (h_digits : Nat) (h_whole : Int32) (h_kindF : Nat → Int32) (h_whatF : Nat → Int32) (p1 : Int32) (p2 : Int32) (p3 : Int32) (p4 : Int32) (hh0 : 0 ≤ p1.toInt) (hh1 : p1.toInt ≤ 257) (hh2 : p2.toInt = 1 ∨ p2.toInt = -1) (hh3 : 0 ≤ p3.toInt) (hh4 : p4.toInt ≤ 257) (iv_h_taped : 0 ≤ (h_taped : Int32).toInt ∧ (h_taped : Int32).toInt ≤ 260) (iv_h_size : 0 ≤ (h_size : Int32).toInt ∧ (h_size : Int32).toInt ≤ 255) (iv_h_value : inR h_value) (iv_h_out : 0 ≤ (h_out : Int32).toInt ∧ (h_out : Int32).toInt ≤ 1024) (iv_h_sections : 0 ≤ (h_sections : Int32).toInt ∧ (h_sections : Int32).toInt ≤ 4) (iv_h_items : 0 ≤ (h_items : Int32).toInt ∧ (h_items : Int32).toInt ≤ 255) (iv_h_reads : 0 ≤ (h_reads : Int32).toInt ∧ (h_reads : Int32).toInt ≤ 255) (iv_h_readSections : 0 ≤ (h_readSections : Int32).toInt ∧ (h_readSections : Int32).toInt ≤ 4) (iv_h_whole : 0 ≤ (h_whole : Int32).toInt ∧ (h_whole : Int32).toInt ≤ 1001) (iv_h_whatF : ∀ k9 : Nat, k9 < 260 → -100000 ≤ (h_whatF k9).toInt ∧ (h_whatF k9).toInt ≤ 100000) (jv_h_kindF : QK h_kindF h_whatF) : Met l yX12_letterBy pw_X12_letterBy ({ frames := 0, cells := 0, slots := 0, locals := 0 }) (va_Pc [.ref h, .int p1, .int p2, .int p3, .int p4] (fun U => va_P D vwCl [(h, .inr (9, [.int h_code, .int h_taped, .ref h_tape, .int h_size, .ref h_text, .double h_value, .int h_out, .ref h_output, .int h_illAt, .ref h_format, .int h_sections, .int h_items, .ref h_kind, .ref h_what, .ref h_of, .ref h_relation, .ref h_bound, .int h_reads, .int h_readSections, .ref h_readKind, .ref h_readWhat, .ref h_readOf, .ref h_place, .ref h_readRelation, .ref h_readBound, .int h_stop, .ref h_meant, .ref h_row, .ref h_exact, .ref h_error, .ref h_bestError, .long h_m, .int h_e, .ref h_digits, .int h_whole])), (h_kind, .inl (cI, 260, .inl h_kindF)), (h_what, .inl (cI, 260, .inl h_whatF))] U.heap ∧ va_K D vwCl (ty3 cI cD cJ) U)) (va_Qi (fun (r : Int32) (u : Unit) => True) (fun _ _ => True) (fun _ => False)) 0 0 (fun _ => False) := by
  refine Met.ofW (cc := cX12_letterBy) (maxL := 6) (ret := (some .int)) (by decide +kernel) rfl ?_
  intro p e s m args below meth c s₁ B hml hv
  obtain ⟨rfl, hP, hK⟩ := hv
  have hx := B.exec
  have hb := B.bytes
  have hr := B.returns
  have hts := atoms_spec (ws := pw_X12_letterBy) B.pre
  have hown : s.vm.findClass RX12 = some m.cls := findClass_of_methodNamed B.named
  have hlocks := B.notSynchronized
  have hS : va_S (fun _ => False) s.heap s.heap [] := va_S.rf
  have hw : ∀ (k : Nat) (w : Cond), ow_X12_letterBy[k]? = some w → w.before _ s = true := fun k w h => hts w (List.mem_cons_of_mem _ (have h9 := List.mem_of_getElem? h; List.mem_append_left _ h9))
  have iX12 : ∀ w ∈ u_ws RX12 TX12 35, w ∈ pw_X12_letterBy := fun w h9 => List.mem_cons_of_mem _ (List.mem_append_right _ (h9))
  have n_0 : ((0 : Int32)).toInt = 0 := by decide
  have n_10 : ((10 : Int32)).toInt = 10 := by decide
  have n_12 : ((12 : Int32)).toInt = 12 := by decide
  have n_8 : ((8 : Int32)).toInt = 8 := by decide
  have hl := lv_entry ([.ref h, .int p1, .int p2, .int p3, .int p4]) (n := 6) (Nat.le_of_ble_eq_true rfl)
  rw [lg_entry_eq]
  generalize (lg_sl ([.ref h, .int p1, .int p2, .int p3, .int p4]) ++ List.replicate (6 - (lg_sl ([.ref h, .int p1, .int p2, .int p3, .int p4])).length) Slot.unset).toArray = ls at hl ⊢
  have hl : lv_has ls 6 [(0, .ref h), (1, .int p1), (2, .int p2), (3, .int p3), (4, .int p4)] := hl
  have b_p1 := ti_b p1
  have b_p2 := ti_b p2
  have b_p3 := ti_b p3
  have b_p4 := ti_b p4
  refine zz_cap (fun Z hZ1 hZ2 => ?_)
  refine lv_iload_n hx hb dX12_letterBy_0 rfl (lv_at hl 1 rfl) ?_
  refine lv_iload_n hx hb dX12_letterBy_1 rfl (lv_at hl 2 rfl) ?_
  refine lv_iadd hx hb dX12_letterBy_2 ?_
  refine lv_topi (fun x_1 ex_1 => ?_)
  have b_p1 := ti_b p1
  have b_p2 := ti_b p2
  have tx_1 := ti_add ex_1
  refine lv_istore (lv' := [(5, .int x_1), (0, .ref h), (1, .int p1), (2, .int p2), (3, .int p3), (4, .int p4)]) hx hb dX12_letterBy_3 hl (by decide) rfl (fun ls hl => ?_)
  have L_5 : ∀ (N : Nat) (x_2 : Int32) (H : Heap) (locs : List Loc) (ls : Array Slot), (-1 ≤ (x_2 : Int32).toInt) → ((x_2 : Int32).toInt ≤ 258) → (lbM p2 x_2 < N) → va_P D vwCl [(h, .inr (9, [.int h_code, .int h_taped, .ref h_tape, .int h_size, .ref h_text, .double h_value, .int h_out, .ref h_output, .int h_illAt, .ref h_format, .int h_sections, .int h_items, .ref h_kind, .ref h_what, .ref h_of, .ref h_relation, .ref h_bound, .int h_reads, .int h_readSections, .ref h_readKind, .ref h_readWhat, .ref h_readOf, .ref h_place, .ref h_readRelation, .ref h_readBound, .int h_stop, .ref h_meant, .ref h_row, .ref h_exact, .ref h_error, .ref h_bestError, .long h_m, .int h_e, .ref h_digits, .int h_whole])), (h_kind, .inl (cI, 260, .inl h_kindF)), (h_what, .inl (cI, 260, .inl h_whatF))] H → va_S (fun _ => False) s.heap H locs → lv_has ls 6 [(5, .int x_2), (0, .ref h), (2, .int p2), (3, .int p3), (4, .int p4)] → Z 0 0 H locs (F0 m 5 ls []) := by
    intro N
    induction N with
    | zero => intro _ _ _ _ _ _ hmu; exact absurd hmu (Nat.not_lt_zero _)
    | succ N ih_5 =>
      intro x_2 H locs ls g5_0 g5_1 hmu hP hS hl
      refine hZ2 ?_
      refine lv_iload hx hb dX12_letterBy_5 (lv_at hl 0 rfl) ?_
      refine lv_iload_n hx hb dX12_letterBy_7 rfl (lv_at hl 3 rfl) ?_
      have K_51 : ∀ (H : Heap) (locs : List Loc) (ls : Array Slot), va_P D vwCl [(h, .inr (9, [.int h_code, .int h_taped, .ref h_tape, .int h_size, .ref h_text, .double h_value, .int h_out, .ref h_output, .int h_illAt, .ref h_format, .int h_sections, .int h_items, .ref h_kind, .ref h_what, .ref h_of, .ref h_relation, .ref h_bound, .int h_reads, .int h_readSections, .ref h_readKind, .ref h_readWhat, .ref h_readOf, .ref h_place, .ref h_readRelation, .ref h_readBound, .int h_stop, .ref h_meant, .ref h_row, .ref h_exact, .ref h_error, .ref h_bestError, .long h_m, .int h_e, .ref h_digits, .int h_whole])), (h_kind, .inl (cI, 260, .inl h_kindF)), (h_what, .inl (cI, 260, .inl h_whatF))] H → va_S (fun _ => False) s.heap H locs → lv_has ls 6 [(5, .int x_2), (0, .ref h), (3, .int p3), (4, .int p4)] → Z 0 0 H locs (F0 m 51 ls []) := by
        intro  H locs ls  hP hS hl
        refine hZ2 ?_
        refine lv_iload hx hb dX12_letterBy_51 (lv_at hl 0 rfl) ?_
        refine lv_iload_n hx hb dX12_letterBy_53 rfl (lv_at hl 2 rfl) ?_
        refine lv_icmp_lt (tgt := 77) hx hb dX12_letterBy_54 (by decide) (fun c_3 => ?_) (fun c_3 => ?_)
        · have ic_3 : (x_2 : Int32).toInt < (p3 : Int32).toInt := (fa_lt x_2 p3).mp c_3
          refine lv_iconst (v := 0) hx hb dX12_letterBy_77 (by decide) ?_
          exact W.iret (v := 0) hx hb hr (fun t ht hW => ⟨⟨0, (), rfl, trivial, trivial⟩, hS.F ht⟩) hS.2.2 dX12_letterBy_78
        · have ic_3 : ¬ ((x_2 : Int32).toInt < (p3 : Int32).toInt) := fun h9 => c_3 ((fa_lt x_2 p3).mpr h9)
          refine lv_iload hx hb dX12_letterBy_57 (lv_at hl 0 rfl) ?_
          refine lv_iload hx hb dX12_letterBy_59 (lv_at hl 3 rfl) ?_
          refine lv_icmp_ge (tgt := 77) hx hb dX12_letterBy_61 (by decide) (fun c_4 => ?_) (fun c_4 => ?_)
          · have ic_4 : (p4 : Int32).toInt ≤ (x_2 : Int32).toInt := (fa_le p4 x_2).mp c_4
            refine lv_iconst (v := 0) hx hb dX12_letterBy_77 (by decide) ?_
            exact W.iret (v := 0) hx hb hr (fun t ht hW => ⟨⟨0, (), rfl, trivial, trivial⟩, hS.F ht⟩) hS.2.2 dX12_letterBy_78
          · have ic_4 : ¬ ((p4 : Int32).toInt ≤ (x_2 : Int32).toInt) := fun h9 => c_4 ((fa_le p4 x_2).mpr h9)
            refine lv_aload_n hx hb dX12_letterBy_64 rfl (lv_at hl 1 rfl) ?_
            refine va_get (D := D) (ci := 9) (v := .ref h_what) (C := RX12) (T := TX12) (N := 35) hx hb hts iX12 hown hK hP 0 rfl rfl 13 (by decide) (hw 0 (.fieldLink RX12 29 "NumberFormatsModel" "what" "[I") rfl) (fun _ h9 => h9) rfl dX12_letterBy_65 ?_
            refine lv_iload hx hb dX12_letterBy_68 (lv_at hl 0 rfl) ?_
            have h_70 : vp_in x_2 260 := by rw [vp_in_iff]; omega
            refine va_iald hx hb hK hP 2 0 rfl rfl h_70 dX12_letterBy_70 ?_
            refine lv_topi (fun x_5 ex_5 => ?_)
            have iv_x_5 := (‹∀ k9 : Nat, k9 < 260 → -100000 ≤ (h_whatF k9).toInt ∧ (h_whatF k9).toInt ≤ 100000›) _ (Nat.lt_of_not_le (fun h9 => h_70 (Or.inr h9)))
            rw [← ex_5] at iv_x_5
            refine lv_bipush (v := 8) hx hb dX12_letterBy_71 (by decide) ?_
            refine lv_idiv hx hb dX12_letterBy_73 (by decide) ?_
            refine lv_topi (fun x_6 ex_6 => ?_)
            have tx_6 := ti_div ex_6 (by decide)
            rw [n_8] at tx_6
            try (have ux_6 := ti_divE ex_6 (by decide) (by omega); rw [n_8] at ux_6)
            refine lv_goto (tgt := 78) hx hb dX12_letterBy_74 (by decide) ?_
            exact W.iret (v := x_6) hx hb hr (fun t ht hW => ⟨⟨x_6, (), rfl, trivial, trivial⟩, hS.F ht⟩) hS.2.2 dX12_letterBy_78
      refine lv_icmp_lt (tgt := 51) hx hb dX12_letterBy_8 (by decide) (fun c_7 => ?_) (fun c_7 => ?_)
      · have ic_7 : (x_2 : Int32).toInt < (p3 : Int32).toInt := (fa_lt x_2 p3).mp c_7
        exact hZ1 (K_51  _ _ _ hP hS (lv_sub hl [0, 1, 3, 4] rfl))
      · have ic_7 : ¬ ((x_2 : Int32).toInt < (p3 : Int32).toInt) := fun h9 => c_7 ((fa_lt x_2 p3).mpr h9)
        refine lv_iload hx hb dX12_letterBy_11 (lv_at hl 0 rfl) ?_
        refine lv_iload hx hb dX12_letterBy_13 (lv_at hl 4 rfl) ?_
        refine lv_icmp_ge (tgt := 51) hx hb dX12_letterBy_15 (by decide) (fun c_8 => ?_) (fun c_8 => ?_)
        · have ic_8 : (p4 : Int32).toInt ≤ (x_2 : Int32).toInt := (fa_le p4 x_2).mp c_8
          exact hZ1 (K_51  _ _ _ hP hS (lv_sub hl [0, 1, 3, 4] rfl))
        · have ic_8 : ¬ ((p4 : Int32).toInt ≤ (x_2 : Int32).toInt) := fun h9 => c_8 ((fa_le p4 x_2).mpr h9)
          refine lv_aload_n hx hb dX12_letterBy_18 rfl (lv_at hl 1 rfl) ?_
          refine va_get (D := D) (ci := 9) (v := .ref h_kind) (C := RX12) (T := TX12) (N := 35) hx hb hts iX12 hown hK hP 0 rfl rfl 12 (by decide) (hw 1 (.fieldLink RX12 26 "NumberFormatsModel" "kind" "[I") rfl) (fun _ h9 => h9) rfl dX12_letterBy_19 ?_
          refine lv_iload hx hb dX12_letterBy_22 (lv_at hl 0 rfl) ?_
          have h_24 : vp_in x_2 260 := by rw [vp_in_iff]; omega
          refine va_iald hx hb hK hP 1 0 rfl rfl h_24 dX12_letterBy_24 ?_
          refine lv_topi (fun x_9 ex_9 => ?_)
          refine lv_bipush (v := 10) hx hb dX12_letterBy_25 (by decide) ?_
          refine lv_icmp_eq (tgt := 51) hx hb dX12_letterBy_27 (by decide) (fun c_10 => ?_) (fun c_10 => ?_)
          · have ic_10 : (x_9 : Int32).toInt = (10 : Int32).toInt := (fa_eq x_9 10).mp c_10
            exact hZ1 (K_51  _ _ _ hP hS (lv_sub hl [0, 1, 3, 4] rfl))
          · have ic_10 : ¬ ((x_9 : Int32).toInt = (10 : Int32).toInt) := fun h9 => c_10 ((fa_eq x_9 10).mpr h9)
            refine lv_aload_n hx hb dX12_letterBy_30 rfl (lv_at hl 1 rfl) ?_
            refine va_get (D := D) (ci := 9) (v := .ref h_kind) (C := RX12) (T := TX12) (N := 35) hx hb hts iX12 hown hK hP 0 rfl rfl 12 (by decide) (hw 1 (.fieldLink RX12 26 "NumberFormatsModel" "kind" "[I") rfl) (fun _ h9 => h9) rfl dX12_letterBy_31 ?_
            refine lv_iload hx hb dX12_letterBy_34 (lv_at hl 0 rfl) ?_
            have h_36 : vp_in x_2 260 := by rw [vp_in_iff]; omega
            refine va_iald hx hb hK hP 1 0 rfl rfl h_36 dX12_letterBy_36 ?_
            refine lv_topi (fun x_11 ex_11 => ?_)
            refine lv_bipush (v := 12) hx hb dX12_letterBy_37 (by decide) ?_
            refine lv_icmp_eq (tgt := 51) hx hb dX12_letterBy_39 (by decide) (fun c_12 => ?_) (fun c_12 => ?_)
            · have ic_12 : (x_11 : Int32).toInt = (12 : Int32).toInt := (fa_eq x_11 12).mp c_12
              exact hZ1 (K_51  _ _ _ hP hS (lv_sub hl [0, 1, 3, 4] rfl))
            · have ic_12 : ¬ ((x_11 : Int32).toInt = (12 : Int32).toInt) := fun h9 => c_12 ((fa_eq x_11 12).mpr h9)
              refine lv_iload hx hb dX12_letterBy_42 (lv_at hl 0 rfl) ?_
              refine lv_iload_n hx hb dX12_letterBy_44 rfl (lv_at hl 2 rfl) ?_
              have hk9 : 0 ≤ (x_2 : Int32).toInt ∧ (x_2 : Int32).toInt < 300 := ⟨by omega, by omega⟩
              refine lv_iadd hx hb dX12_letterBy_45 ?_
              refine lv_topi (fun x_13 ex_13 => ?_)
              have b_x_2 := ti_b x_2
              have b_p2 := ti_b p2
              have tx_13 := ti_add ex_13
              refine lv_istore (lv' := [(5, .int x_13), (0, .ref h), (2, .int p2), (3, .int p3), (4, .int p4)]) hx hb dX12_letterBy_46 hl (by decide) rfl (fun ls hl => ?_)
              have hq9 := lbM_step (k' := x_13) hh2 hk9.1 hk9.2 (by omega)
              refine lv_goto (tgt := 5) hx hb dX12_letterBy_48 (by decide) ?_
              exact hZ1 (ih_5 x_13 _ _ _ (by omega) (by omega) (by omega) hP hS hl)
  exact hZ1 (L_5 ((lbM p2 x_1) + 1) x_1 _ _ _ (by omega) (by omega) (by omega) hP hS (lv_sub hl [0, 1, 3, 4, 5] rfl))

def ow_X12_writeDayItem : List Cond := [Cond.methodLink RX12 440 yX12_daysOf, Cond.static yX12_daysOf, Cond.initialized RX12, Cond.methodLink RX12 446 yX12_writeDay, Cond.instanceMethod yX12_writeDay, Cond.selects RX12 yX12_writeDay yX12_writeDay, Cond.methodLink RX12 443 yX12_writeMonth, Cond.instanceMethod yX12_writeMonth, Cond.selects RX12 yX12_writeMonth yX12_writeMonth, Cond.methodLink RX12 287 yX12_writeNumber, Cond.instanceMethod yX12_writeNumber, Cond.selects RX12 yX12_writeNumber yX12_writeNumber]
def pw_X12_writeDayItem : List Cond := Cond.code yX12_writeDayItem cX12_writeDayItem 7 none :: (ow_X12_writeDayItem ++ (pw_X12_daysOf ++ (pw_X12_writeDay ++ (pw_X12_writeMonth ++ (pw_X12_writeNumber)))))
set_option maxRecDepth 20000 in
theorem mo_X12_writeDayItem : ∀ w ∈ ow_X12_writeDayItem, w ∈ lw_tbl := by decide +kernel
set_option maxRecDepth 20000 in
theorem mc_X12_writeDayItem : Cond.code yX12_writeDayItem cX12_writeDayItem 7 none ∈ lw_tbl := by decide +kernel
theorem m_X12_writeDayItem : ∀ w ∈ pw_X12_writeDayItem, w ∈ lw_tbl := List.forall_mem_cons.mpr ⟨mc_X12_writeDayItem, (List.forall_mem_append.mpr ⟨mo_X12_writeDayItem, (List.forall_mem_append.mpr ⟨m_X12_daysOf, (List.forall_mem_append.mpr ⟨m_X12_writeDay, (List.forall_mem_append.mpr ⟨m_X12_writeMonth, m_X12_writeNumber⟩)⟩)⟩)⟩)⟩
theorem ko_X12_writeDayItem : ∀ w ∈ ow_X12_writeDayItem, goodWord w = true := by decide +kernel
theorem k_X12_writeDayItem : pw_X12_writeDayItem.all goodWord = true := List.all_eq_true.mpr (List.forall_mem_cons.mpr ⟨by decide +kernel, (List.forall_mem_append.mpr ⟨ko_X12_writeDayItem, (List.forall_mem_append.mpr ⟨(List.all_eq_true.mp k_X12_daysOf), (List.forall_mem_append.mpr ⟨(List.all_eq_true.mp k_X12_writeDay), (List.forall_mem_append.mpr ⟨(List.all_eq_true.mp k_X12_writeMonth), (List.all_eq_true.mp k_X12_writeNumber)⟩)⟩)⟩)⟩)⟩)
set_option maxHeartbeats 400000 in
set_option maxRecDepth 100000 in
theorem c_X12_writeDayItem (l : Launch) (D : va_G) (cI cD cJ : ClassId) (sz : Nat) (h : Nat) (h_code : Int32) (h_taped : Int32) (h_tape : Nat) (h_size : Int32) (h_text : Nat) (h_value : UInt64) (h_out : Int32) (h_output : Nat) (h_illAt : Int32) (h_format : Nat) (h_sections : Int32) (h_items : Int32) (h_kind : Nat) (h_what : Nat) (h_of : Nat) (h_relation : Nat) (h_bound : Nat) (h_reads : Int32) (h_readSections : Int32) (h_readKind : Nat) (h_readWhat : Nat) (h_readOf : Nat) (h_place : Nat) (h_readRelation : Nat) (h_readBound : Nat) (h_stop : Int32) (h_meant : Nat) (h_row : Nat) (h_exact : Nat) (h_error : Nat) (h_bestError : Nat) (h_m : Int64) (h_e : Int32) (h_digits : Nat) (h_whole : Int32) (h_outputF : Nat → Int32) (p1 : Int32) (p2 : Int32) (p3 : Int32) (iv_h_taped : 0 ≤ (h_taped : Int32).toInt ∧ (h_taped : Int32).toInt ≤ 260) (iv_h_size : 0 ≤ (h_size : Int32).toInt ∧ (h_size : Int32).toInt ≤ 255) (iv_h_value : inR h_value) (iv_h_out : 0 ≤ (h_out : Int32).toInt ∧ (h_out : Int32).toInt ≤ 1024) (iv_h_sections : 0 ≤ (h_sections : Int32).toInt ∧ (h_sections : Int32).toInt ≤ 4) (iv_h_items : 0 ≤ (h_items : Int32).toInt ∧ (h_items : Int32).toInt ≤ 255) (iv_h_reads : 0 ≤ (h_reads : Int32).toInt ∧ (h_reads : Int32).toInt ≤ 255) (iv_h_readSections : 0 ≤ (h_readSections : Int32).toInt ∧ (h_readSections : Int32).toInt ≤ 4) (iv_h_whole : 0 ≤ (h_whole : Int32).toInt ∧ (h_whole : Int32).toInt ≤ 1001) : Met l yX12_writeDayItem pw_X12_writeDayItem ({ frames := 3, cells := 0, slots := 0, locals := 72 }) (va_Pc [.ref h, .int p1, .int p2, .int p3] (fun U => U.heap.size = sz ∧ va_P D vwCl [(h, .inr (9, [.int h_code, .int h_taped, .ref h_tape, .int h_size, .ref h_text, .double h_value, .int h_out, .ref h_output, .int h_illAt, .ref h_format, .int h_sections, .int h_items, .ref h_kind, .ref h_what, .ref h_of, .ref h_relation, .ref h_bound, .int h_reads, .int h_readSections, .ref h_readKind, .ref h_readWhat, .ref h_readOf, .ref h_place, .ref h_readRelation, .ref h_readBound, .int h_stop, .ref h_meant, .ref h_row, .ref h_exact, .ref h_error, .ref h_bestError, .long h_m, .int h_e, .ref h_digits, .int h_whole])), (h_output, .inl (cI, 1024, .inl h_outputF))] U.heap ∧ va_K D vwCl (ty3 cI cD cJ) U ∧ va_D (fun _ => True) [(h, .inr (9, [.int h_code, .int h_taped, .ref h_tape, .int h_size, .ref h_text, .double h_value, .int h_out, .ref h_output, .int h_illAt, .ref h_format, .int h_sections, .int h_items, .ref h_kind, .ref h_what, .ref h_of, .ref h_relation, .ref h_bound, .int h_reads, .int h_readSections, .ref h_readKind, .ref h_readWhat, .ref h_readOf, .ref h_place, .ref h_readRelation, .ref h_readBound, .int h_stop, .ref h_meant, .ref h_row, .ref h_exact, .ref h_error, .ref h_bestError, .long h_m, .int h_e, .ref h_digits, .int h_whole])), (h_output, .inl (cI, 1024, .inl h_outputF))])) (va_Qv (fun (u : Int32 × (Nat → Int32)) => match u with | (h_out2, h_outputF2) => (0 ≤ (h_out2 : Int32).toInt ∧ (h_out2 : Int32).toInt ≤ 1024)) (fun (u : Int32 × (Nat → Int32)) (t : State) => match u with | (h_out2, h_outputF2) => va_P D vwCl [(h, .inr (9, [.int h_code, .int h_taped, .ref h_tape, .int h_size, .ref h_text, .double h_value, .int h_out2, .ref h_output, .int h_illAt, .ref h_format, .int h_sections, .int h_items, .ref h_kind, .ref h_what, .ref h_of, .ref h_relation, .ref h_bound, .int h_reads, .int h_readSections, .ref h_readKind, .ref h_readWhat, .ref h_readOf, .ref h_place, .ref h_readRelation, .ref h_readBound, .int h_stop, .ref h_meant, .ref h_row, .ref h_exact, .ref h_error, .ref h_bestError, .long h_m, .int h_e, .ref h_digits, .int h_whole])), (h_output, .inl (cI, 1024, .inl h_outputF2))] t.heap ∧ va_K D vwCl (ty3 cI cD cJ) t ∧ va_D (va_A [(h, .inr (9, [.int h_code, .int h_taped, .ref h_tape, .int h_size, .ref h_text, .double h_value, .int h_out, .ref h_output, .int h_illAt, .ref h_format, .int h_sections, .int h_items, .ref h_kind, .ref h_what, .ref h_of, .ref h_relation, .ref h_bound, .int h_reads, .int h_readSections, .ref h_readKind, .ref h_readWhat, .ref h_readOf, .ref h_place, .ref h_readRelation, .ref h_readBound, .int h_stop, .ref h_meant, .ref h_row, .ref h_exact, .ref h_error, .ref h_bestError, .long h_m, .int h_e, .ref h_digits, .int h_whole])), (h_output, .inl (cI, 1024, .inl h_outputF))] sz) [(h, .inr (9, [.int h_code, .int h_taped, .ref h_tape, .int h_size, .ref h_text, .double h_value, .int h_out2, .ref h_output, .int h_illAt, .ref h_format, .int h_sections, .int h_items, .ref h_kind, .ref h_what, .ref h_of, .ref h_relation, .ref h_bound, .int h_reads, .int h_readSections, .ref h_readKind, .ref h_readWhat, .ref h_readOf, .ref h_place, .ref h_readRelation, .ref h_readBound, .int h_stop, .ref h_meant, .ref h_row, .ref h_exact, .ref h_error, .ref h_bestError, .long h_m, .int h_e, .ref h_digits, .int h_whole])), (h_output, .inl (cI, 1024, .inl h_outputF2))]) (va_A [(h, .inr (9, [.int h_code, .int h_taped, .ref h_tape, .int h_size, .ref h_text, .double h_value, .int h_out, .ref h_output, .int h_illAt, .ref h_format, .int h_sections, .int h_items, .ref h_kind, .ref h_what, .ref h_of, .ref h_relation, .ref h_bound, .int h_reads, .int h_readSections, .ref h_readKind, .ref h_readWhat, .ref h_readOf, .ref h_place, .ref h_readRelation, .ref h_readBound, .int h_stop, .ref h_meant, .ref h_row, .ref h_exact, .ref h_error, .ref h_bestError, .long h_m, .int h_e, .ref h_digits, .int h_whole])), (h_output, .inl (cI, 1024, .inl h_outputF))] sz)) 0 0 (va_A [(h, .inr (9, [.int h_code, .int h_taped, .ref h_tape, .int h_size, .ref h_text, .double h_value, .int h_out, .ref h_output, .int h_illAt, .ref h_format, .int h_sections, .int h_items, .ref h_kind, .ref h_what, .ref h_of, .ref h_relation, .ref h_bound, .int h_reads, .int h_readSections, .ref h_readKind, .ref h_readWhat, .ref h_readOf, .ref h_place, .ref h_readRelation, .ref h_readBound, .int h_stop, .ref h_meant, .ref h_row, .ref h_exact, .ref h_error, .ref h_bestError, .long h_m, .int h_e, .ref h_digits, .int h_whole])), (h_output, .inl (cI, 1024, .inl h_outputF))] sz) := by
  refine Met.ofW (cc := cX12_writeDayItem) (maxL := 7) (ret := none) (by decide +kernel) rfl ?_
  intro p e s m args below meth c s₁ B hml hv
  obtain ⟨rfl, hsz, hP, hK, hD0⟩ := hv
  have hx := B.exec
  have hb := B.bytes
  have hr := B.returns
  have hts := atoms_spec (ws := pw_X12_writeDayItem) B.pre
  have hown : s.vm.findClass RX12 = some m.cls := findClass_of_methodNamed B.named
  have hlocks := B.notSynchronized
  subst hsz
  have hD := hD0.self (sz := s.heap.size)
  generalize hAe : va_A [(h, .inr (9, [.int h_code, .int h_taped, .ref h_tape, .int h_size, .ref h_text, .double h_value, .int h_out, .ref h_output, .int h_illAt, .ref h_format, .int h_sections, .int h_items, .ref h_kind, .ref h_what, .ref h_of, .ref h_relation, .ref h_bound, .int h_reads, .int h_readSections, .ref h_readKind, .ref h_readWhat, .ref h_readOf, .ref h_place, .ref h_readRelation, .ref h_readBound, .int h_stop, .ref h_meant, .ref h_row, .ref h_exact, .ref h_error, .ref h_bestError, .long h_m, .int h_e, .ref h_digits, .int h_whole])), (h_output, .inl (cI, 1024, .inl h_outputF))] s.heap.size = A at hD ⊢
  have hA : ∀ q : Nat, s.heap.size ≤ q → A q := fun q h => by rw [← hAe]; exact Or.inr h
  have hS : va_S A s.heap s.heap [] := va_S.rf
  have hw : ∀ (k : Nat) (w : Cond), ow_X12_writeDayItem[k]? = some w → w.before _ s = true := fun k w h => hts w (List.mem_cons_of_mem _ (have h9 := List.mem_of_getElem? h; List.mem_append_left _ h9))
  have i_X12_daysOf : ∀ w ∈ pw_X12_daysOf, w ∈ pw_X12_writeDayItem := fun w h9 => List.mem_cons_of_mem _ (List.mem_append_right _ (List.mem_append_left _ h9))
  have i_X12_writeDay : ∀ w ∈ pw_X12_writeDay, w ∈ pw_X12_writeDayItem := fun w h9 => List.mem_cons_of_mem _ (List.mem_append_right _ (List.mem_append_right _ (List.mem_append_left _ h9)))
  have i_X12_writeMonth : ∀ w ∈ pw_X12_writeMonth, w ∈ pw_X12_writeDayItem := fun w h9 => List.mem_cons_of_mem _ (List.mem_append_right _ (List.mem_append_right _ (List.mem_append_right _ (List.mem_append_left _ h9))))
  have i_X12_writeNumber : ∀ w ∈ pw_X12_writeNumber, w ∈ pw_X12_writeDayItem := fun w h9 => List.mem_cons_of_mem _ (List.mem_append_right _ (List.mem_append_right _ (List.mem_append_right _ (List.mem_append_right _ (h9)))))
  have n_0 : ((0 : Int32)).toInt = 0 := by decide
  have n_1 : ((1 : Int32)).toInt = 1 := by decide
  have n_100 : ((100 : Int32)).toInt = 100 := by decide
  have n_109 : ((109 : Int32)).toInt = 109 := by decide
  have n_12 : ((12 : Int32)).toInt = 12 := by decide
  have n_121 : ((121 : Int32)).toInt = 121 := by decide
  have n_1899 : ((1899 : Int32)).toInt = 1899 := by decide
  have n_2 : ((2 : Int32)).toInt = 2 := by decide
  have n_3 : ((3 : Int32)).toInt = 3 := by decide
  have n_30 : ((30 : Int32)).toInt = 30 := by decide
  have n_4 : ((4 : Int32)).toInt = 4 := by decide
  have n_7 : ((7 : Int32)).toInt = 7 := by decide
  have hl := lv_entry ([.ref h, .int p1, .int p2, .int p3]) (n := 7) (Nat.le_of_ble_eq_true rfl)
  rw [lg_entry_eq]
  generalize (lg_sl ([.ref h, .int p1, .int p2, .int p3]) ++ List.replicate (7 - (lg_sl ([.ref h, .int p1, .int p2, .int p3])).length) Slot.unset).toArray = ls at hl ⊢
  have hl : lv_has ls 7 [(0, .ref h), (1, .int p1), (2, .int p2), (3, .int p3)] := hl
  have b_p1 := ti_b p1
  have b_p2 := ti_b p2
  have b_p3 := ti_b p3
  refine zz_cap (fun Z hZ1 hZ2 => ?_)
  refine lv_sipush (v := 1899) hx hb dX12_writeDayItem_0 (by decide) ?_
  refine lv_istore (lv' := [(4, .int 1899), (0, .ref h), (1, .int p1), (2, .int p2), (3, .int p3)]) hx hb dX12_writeDayItem_3 hl (by decide) rfl (fun ls hl => ?_)
  refine lv_bipush (v := 12) hx hb dX12_writeDayItem_5 (by decide) ?_
  refine lv_istore (lv' := [(5, .int 12), (4, .int 1899), (0, .ref h), (1, .int p1), (2, .int p2), (3, .int p3)]) hx hb dX12_writeDayItem_7 hl (by decide) rfl (fun ls hl => ?_)
  refine lv_bipush (v := 30) hx hb dX12_writeDayItem_9 (by decide) ?_
  refine lv_iload_n hx hb dX12_writeDayItem_11 rfl (lv_at hl 5 rfl) ?_
  refine lv_iadd hx hb dX12_writeDayItem_12 ?_
  refine lv_topi (fun x_1 ex_1 => ?_)
  have b_p3 := ti_b p3
  have tx_1 := ti_add ex_1
  refine lv_istore (lv' := [(6, .int x_1), (5, .int 12), (4, .int 1899), (0, .ref h), (1, .int p1), (2, .int p2), (3, .int p3)]) hx hb dX12_writeDayItem_13 hl (by decide) rfl (fun ls hl => ?_)
  have L_15 : ∀ (N : Nat) (x_2 : Int32) (x_3 : Int32) (x_4 : Int32) (H : Heap) (locs : List Loc) (ls : Array Slot), ((x_2 : Int32).toInt.toNat < N) → va_P D vwCl [(h, .inr (9, [.int h_code, .int h_taped, .ref h_tape, .int h_size, .ref h_text, .double h_value, .int h_out, .ref h_output, .int h_illAt, .ref h_format, .int h_sections, .int h_items, .ref h_kind, .ref h_what, .ref h_of, .ref h_relation, .ref h_bound, .int h_reads, .int h_readSections, .ref h_readKind, .ref h_readWhat, .ref h_readOf, .ref h_place, .ref h_readRelation, .ref h_readBound, .int h_stop, .ref h_meant, .ref h_row, .ref h_exact, .ref h_error, .ref h_bestError, .long h_m, .int h_e, .ref h_digits, .int h_whole])), (h_output, .inl (cI, 1024, .inl h_outputF))] H → va_D A [(h, .inr (9, [.int h_code, .int h_taped, .ref h_tape, .int h_size, .ref h_text, .double h_value, .int h_out, .ref h_output, .int h_illAt, .ref h_format, .int h_sections, .int h_items, .ref h_kind, .ref h_what, .ref h_of, .ref h_relation, .ref h_bound, .int h_reads, .int h_readSections, .ref h_readKind, .ref h_readWhat, .ref h_readOf, .ref h_place, .ref h_readRelation, .ref h_readBound, .int h_stop, .ref h_meant, .ref h_row, .ref h_exact, .ref h_error, .ref h_bestError, .long h_m, .int h_e, .ref h_digits, .int h_whole])), (h_output, .inl (cI, 1024, .inl h_outputF))] → va_S A s.heap H locs → lv_has ls 7 [(6, .int x_2), (5, .int x_3), (4, .int x_4), (0, .ref h), (1, .int p1), (2, .int p2), (3, .int p3)] → Z 0 0 H locs (F0 m 15 ls []) := by
    intro N
    induction N with
    | zero => intro _ _ _ _ _ _ hmu; exact absurd hmu (Nat.not_lt_zero _)
    | succ N ih_15 =>
      intro x_2 x_3 x_4 H locs ls  hmu hP hD hS hl
      refine hZ2 ?_
      refine lv_iload hx hb dX12_writeDayItem_15 (lv_at hl 0 rfl) ?_
      refine lv_iload hx hb dX12_writeDayItem_17 (lv_at hl 2 rfl) ?_
      refine lv_iload hx hb dX12_writeDayItem_19 (lv_at hl 1 rfl) ?_
      have hPc := hP.sub (ws' := []) [] rfl
      refine va_calli (va_runS (As := [.int x_4, .int x_3]) (rest := [.int x_2]) ⟨hx, hb, hml, hown, hts⟩ (c_X12_daysOf l D cI cD cJ H.size x_4 x_3) (va_cwS 2 hts (goodIn_app (goodIn_r _ [1, 2, 3] rfl (by decide +kernel)) (goodIn_sub i_X12_daysOf k_X12_daysOf)) rfl rfl rfl (by decide +kernel) ⟨Nat.le_of_ble_eq_true rfl, Nat.le_of_ble_eq_true rfl⟩) ⟨fun a U g mk q => by obtain ⟨q0, qP, qK⟩ := q; exact ⟨q0, qP, va_K.moved (u := U) (U := U.calling g mk a) (Vm.Alike.refl U.vm) qK⟩, fun U hU hW => ⟨rfl, by rw [hU]; exact hPc, va_K.moved hW.alike hK⟩⟩ rfl rfl hl.1 rfl (lv_room (Nat.le_of_ble_eq_true rfl)) dX12_writeDayItem_21 ⟨Nat.le_of_ble_eq_true rfl, Nat.le_of_ble_eq_true rfl⟩) hS (fun q _ h => h.elim) (fun q h => h.elim) (fun x_5 u t H1 locs ht hvm w_6 hB hz1 hk1 hS => ?_)
      have hP : va_P D vwCl [(h, .inr (9, [.int h_code, .int h_taped, .ref h_tape, .int h_size, .ref h_text, .double h_value, .int h_out, .ref h_output, .int h_illAt, .ref h_format, .int h_sections, .int h_items, .ref h_kind, .ref h_what, .ref h_of, .ref h_relation, .ref h_bound, .int h_reads, .int h_readSections, .ref h_readKind, .ref h_readWhat, .ref h_readOf, .ref h_place, .ref h_readRelation, .ref h_readBound, .int h_stop, .ref h_meant, .ref h_row, .ref h_exact, .ref h_error, .ref h_bestError, .long h_m, .int h_e, .ref h_digits, .int h_whole])), (h_output, .inl (cI, 1024, .inl h_outputF))] H1 := hP.kept (fun k9 q9 h9 => hk1 q9.1 (vx_lt hP h9) (fun h => h))
      generalize H1 = H at hP hS ⊢
      try dsimp only at w_6
      refine lv_icmp_le (tgt := 76) hx hb dX12_writeDayItem_24 (by decide) (fun c_7 => ?_) (fun c_7 => ?_)
      · have ic_7 : (x_2 : Int32).toInt ≤ (x_5 : Int32).toInt := (fa_le x_2 x_5).mp c_7
        refine lv_iload_n hx hb dX12_writeDayItem_76 rfl (lv_at hl 4 rfl) ?_
        refine lv_bipush (v := 121) hx hb dX12_writeDayItem_77 (by decide) ?_
        refine lv_icmp_ne (tgt := 116) hx hb dX12_writeDayItem_79 (by decide) (fun c_8 => ?_) (fun c_8 => ?_)
        · have ic_8 : ¬ ((p1 : Int32).toInt = (121 : Int32).toInt) := fun h9 => c_8 ((fa_eq p1 121).mpr h9)
          refine lv_iload_n hx hb dX12_writeDayItem_116 rfl (lv_at hl 4 rfl) ?_
          refine lv_bipush (v := 109) hx hb dX12_writeDayItem_117 (by decide) ?_
          refine lv_icmp_ne (tgt := 132) hx hb dX12_writeDayItem_119 (by decide) (fun c_9 => ?_) (fun c_9 => ?_)
          · have ic_9 : ¬ ((p1 : Int32).toInt = (109 : Int32).toInt) := fun h9 => c_9 ((fa_eq p1 109).mpr h9)
            refine lv_aload_n hx hb dX12_writeDayItem_132 rfl (lv_at hl 3 rfl) ?_
            refine lv_iload_n hx hb dX12_writeDayItem_133 rfl (lv_at hl 6 rfl) ?_
            refine lv_bipush (v := 7) hx hb dX12_writeDayItem_134 (by decide) ?_
            refine lv_irem hx hb dX12_writeDayItem_136 (by decide) ?_
            refine lv_topi (fun x_10 ex_10 => ?_)
            have tx_10 := ti_rem ex_10 (by decide)
            rw [n_7] at tx_10
            try (have ux_10 := ti_remE ex_10 (by decide) (by omega); rw [n_7] at ux_10)
            refine lv_iload hx hb dX12_writeDayItem_137 (lv_at hl 0 rfl) ?_
            refine lv_iload_n hx hb dX12_writeDayItem_139 rfl (lv_at hl 5 rfl) ?_
            have hPc := hP.sub (ws' := [(h, .inr (9, [.int h_code, .int h_taped, .ref h_tape, .int h_size, .ref h_text, .double h_value, .int h_out, .ref h_output, .int h_illAt, .ref h_format, .int h_sections, .int h_items, .ref h_kind, .ref h_what, .ref h_of, .ref h_relation, .ref h_bound, .int h_reads, .int h_readSections, .ref h_readKind, .ref h_readWhat, .ref h_readOf, .ref h_place, .ref h_readRelation, .ref h_readBound, .int h_stop, .ref h_meant, .ref h_row, .ref h_exact, .ref h_error, .ref h_bestError, .long h_m, .int h_e, .ref h_digits, .int h_whole])), (h_output, .inl (cI, 1024, .inl h_outputF))]) [0, 1] rfl
            have hDc := hD.sub (ws' := [(h, .inr (9, [.int h_code, .int h_taped, .ref h_tape, .int h_size, .ref h_text, .double h_value, .int h_out, .ref h_output, .int h_illAt, .ref h_format, .int h_sections, .int h_items, .ref h_kind, .ref h_what, .ref h_of, .ref h_relation, .ref h_bound, .int h_reads, .int h_readSections, .ref h_readKind, .ref h_readWhat, .ref h_readOf, .ref h_place, .ref h_readRelation, .ref h_readBound, .int h_stop, .ref h_meant, .ref h_row, .ref h_exact, .ref h_error, .ref h_bestError, .long h_m, .int h_e, .ref h_digits, .int h_whole])), (h_output, .inl (cI, 1024, .inl h_outputF))]) [0, 1] (by decide) rfl
            have hFc := va_free (wc := [(h, .inr (9, [.int h_code, .int h_taped, .ref h_tape, .int h_size, .ref h_text, .double h_value, .int h_out, .ref h_output, .int h_illAt, .ref h_format, .int h_sections, .int h_items, .ref h_kind, .ref h_what, .ref h_of, .ref h_relation, .ref h_bound, .int h_reads, .int h_readSections, .ref h_readKind, .ref h_readWhat, .ref h_readOf, .ref h_place, .ref h_readRelation, .ref h_readBound, .int h_stop, .ref h_meant, .ref h_row, .ref h_exact, .ref h_error, .ref h_bestError, .long h_m, .int h_e, .ref h_digits, .int h_whole])), (h_output, .inl (cI, 1024, .inl h_outputF))]) hD hS hA [0, 1] rfl
            refine va_callv (va_runV (As := [.int x_10, .int x_2, .int p2]) (rest := []) ⟨hx, hb, hml, hown, hts⟩ (c_X12_writeDay l D cI cD cJ H.size h h_code h_taped h_tape h_size h_text h_value h_out h_output h_illAt h_format h_sections h_items h_kind h_what h_of h_relation h_bound h_reads h_readSections h_readKind h_readWhat h_readOf h_place h_readRelation h_readBound h_stop h_meant h_row h_exact h_error h_bestError h_m h_e h_digits h_whole h_outputF x_10 x_2 p2 (by omega) (by omega) (by assumption) (by omega) (by omega) (by omega) (by omega) (by omega) (by omega)) (cwV 3 hts (goodIn_app (goodIn_r _ [4, 5, 6, 3] rfl (by decide +kernel)) (goodIn_sub i_X12_writeDay k_X12_writeDay)) rfl rfl rfl (by decide +kernel) ⟨Nat.le_of_ble_eq_true rfl, Nat.le_of_ble_eq_true rfl⟩) ⟨fun a U g mk q => by obtain ⟨q0, q1, qP, qK, qD⟩ := q; exact ⟨q0, q1, qP, va_K.moved (u := U) (U := U.calling g mk a) (Vm.Alike.refl U.vm) qK, qD⟩, va_recv hK hPc (ci := 9) (q0 := 0) rfl rfl, fun U hU hW => ⟨rfl, by rw [hU], by rw [hU]; exact hPc, va_K.moved hW.alike hK, hDc.weaken (fun _ _ _ _ => trivial)⟩⟩ rfl rfl hl.1 rfl (lv_room (Nat.le_of_ble_eq_true rfl)) dX12_writeDayItem_140 ⟨Nat.le_of_ble_eq_true rfl, Nat.le_of_ble_eq_true rfl⟩) hS (fun q _ h => hFc q h) hFc (fun u t H1 locs ht hvm w_11 hB hz1 hk1 hS => ?_)
            obtain ⟨u_12, u_13⟩ := u
            obtain ⟨hP1, hK1, hD1⟩ := hB
            rw [ht] at hP1
            try dsimp only at w_11
            obtain ⟨hP, hD⟩ := va_join (wr := []) (w1 := [(h, .inr (9, [.int h_code, .int h_taped, .ref h_tape, .int h_size, .ref h_text, .double h_value, .int u_12, .ref h_output, .int h_illAt, .ref h_format, .int h_sections, .int h_items, .ref h_kind, .ref h_what, .ref h_of, .ref h_relation, .ref h_bound, .int h_reads, .int h_readSections, .ref h_readKind, .ref h_readWhat, .ref h_readOf, .ref h_place, .ref h_readRelation, .ref h_readBound, .int h_stop, .ref h_meant, .ref h_row, .ref h_exact, .ref h_error, .ref h_bestError, .long h_m, .int h_e, .ref h_digits, .int h_whole])), (h_output, .inl (cI, 1024, .inl u_13))]) hP hD [0, 1] [] rfl rfl (by decide) (by decide) hk1 hFc hP1 hD1
            generalize H1 = H at hP hS ⊢
            have hP : va_P D vwCl [(h, .inr (9, [.int h_code, .int h_taped, .ref h_tape, .int h_size, .ref h_text, .double h_value, .int u_12, .ref h_output, .int h_illAt, .ref h_format, .int h_sections, .int h_items, .ref h_kind, .ref h_what, .ref h_of, .ref h_relation, .ref h_bound, .int h_reads, .int h_readSections, .ref h_readKind, .ref h_readWhat, .ref h_readOf, .ref h_place, .ref h_readRelation, .ref h_readBound, .int h_stop, .ref h_meant, .ref h_row, .ref h_exact, .ref h_error, .ref h_bestError, .long h_m, .int h_e, .ref h_digits, .int h_whole])), (h_output, .inl (cI, 1024, .inl u_13))] H := hP
            have hD : va_D A [(h, .inr (9, [.int h_code, .int h_taped, .ref h_tape, .int h_size, .ref h_text, .double h_value, .int u_12, .ref h_output, .int h_illAt, .ref h_format, .int h_sections, .int h_items, .ref h_kind, .ref h_what, .ref h_of, .ref h_relation, .ref h_bound, .int h_reads, .int h_readSections, .ref h_readKind, .ref h_readWhat, .ref h_readOf, .ref h_place, .ref h_readRelation, .ref h_readBound, .int h_stop, .ref h_meant, .ref h_row, .ref h_exact, .ref h_error, .ref h_bestError, .long h_m, .int h_e, .ref h_digits, .int h_whole])), (h_output, .inl (cI, 1024, .inl u_13))] := hD
            have hP9 := hP.sub (ws' := [(h, .inr (9, [.int h_code, .int h_taped, .ref h_tape, .int h_size, .ref h_text, .double h_value, .int u_12, .ref h_output, .int h_illAt, .ref h_format, .int h_sections, .int h_items, .ref h_kind, .ref h_what, .ref h_of, .ref h_relation, .ref h_bound, .int h_reads, .int h_readSections, .ref h_readKind, .ref h_readWhat, .ref h_readOf, .ref h_place, .ref h_readRelation, .ref h_readBound, .int h_stop, .ref h_meant, .ref h_row, .ref h_exact, .ref h_error, .ref h_bestError, .long h_m, .int h_e, .ref h_digits, .int h_whole])), (h_output, .inl (cI, 1024, .inl u_13))]) [0, 1] rfl
            have hD9 := hD.sub (ws' := [(h, .inr (9, [.int h_code, .int h_taped, .ref h_tape, .int h_size, .ref h_text, .double h_value, .int u_12, .ref h_output, .int h_illAt, .ref h_format, .int h_sections, .int h_items, .ref h_kind, .ref h_what, .ref h_of, .ref h_relation, .ref h_bound, .int h_reads, .int h_readSections, .ref h_readKind, .ref h_readWhat, .ref h_readOf, .ref h_place, .ref h_readRelation, .ref h_readBound, .int h_stop, .ref h_meant, .ref h_row, .ref h_exact, .ref h_error, .ref h_bestError, .long h_m, .int h_e, .ref h_digits, .int h_whole])), (h_output, .inl (cI, 1024, .inl u_13))]) [0, 1] (by decide) rfl
            exact W.vret hx hb hr (fun t ht hW => ⟨⟨(u_12, u_13), rfl, (by (try dsimp only); first | omega | assumption), by rw [ht]; exact hP9, va_K.moved hW.alike hK, hD9⟩, hS.F ht⟩) hS.2.2 dX12_writeDayItem_143
          · have ic_9 : (p1 : Int32).toInt = (109 : Int32).toInt := (fa_eq p1 109).mp c_9
            refine lv_aload_n hx hb dX12_writeDayItem_122 rfl (lv_at hl 3 rfl) ?_
            refine lv_iload hx hb dX12_writeDayItem_123 (lv_at hl 1 rfl) ?_
            refine lv_iload_n hx hb dX12_writeDayItem_125 rfl (lv_at hl 5 rfl) ?_
            have hPc := hP.sub (ws' := [(h, .inr (9, [.int h_code, .int h_taped, .ref h_tape, .int h_size, .ref h_text, .double h_value, .int h_out, .ref h_output, .int h_illAt, .ref h_format, .int h_sections, .int h_items, .ref h_kind, .ref h_what, .ref h_of, .ref h_relation, .ref h_bound, .int h_reads, .int h_readSections, .ref h_readKind, .ref h_readWhat, .ref h_readOf, .ref h_place, .ref h_readRelation, .ref h_readBound, .int h_stop, .ref h_meant, .ref h_row, .ref h_exact, .ref h_error, .ref h_bestError, .long h_m, .int h_e, .ref h_digits, .int h_whole])), (h_output, .inl (cI, 1024, .inl h_outputF))]) [0, 1] rfl
            have hDc := hD.sub (ws' := [(h, .inr (9, [.int h_code, .int h_taped, .ref h_tape, .int h_size, .ref h_text, .double h_value, .int h_out, .ref h_output, .int h_illAt, .ref h_format, .int h_sections, .int h_items, .ref h_kind, .ref h_what, .ref h_of, .ref h_relation, .ref h_bound, .int h_reads, .int h_readSections, .ref h_readKind, .ref h_readWhat, .ref h_readOf, .ref h_place, .ref h_readRelation, .ref h_readBound, .int h_stop, .ref h_meant, .ref h_row, .ref h_exact, .ref h_error, .ref h_bestError, .long h_m, .int h_e, .ref h_digits, .int h_whole])), (h_output, .inl (cI, 1024, .inl h_outputF))]) [0, 1] (by decide) rfl
            have hFc := va_free (wc := [(h, .inr (9, [.int h_code, .int h_taped, .ref h_tape, .int h_size, .ref h_text, .double h_value, .int h_out, .ref h_output, .int h_illAt, .ref h_format, .int h_sections, .int h_items, .ref h_kind, .ref h_what, .ref h_of, .ref h_relation, .ref h_bound, .int h_reads, .int h_readSections, .ref h_readKind, .ref h_readWhat, .ref h_readOf, .ref h_place, .ref h_readRelation, .ref h_readBound, .int h_stop, .ref h_meant, .ref h_row, .ref h_exact, .ref h_error, .ref h_bestError, .long h_m, .int h_e, .ref h_digits, .int h_whole])), (h_output, .inl (cI, 1024, .inl h_outputF))]) hD hS hA [0, 1] rfl
            refine va_callv (va_runV (As := [.int x_3, .int p2]) (rest := []) ⟨hx, hb, hml, hown, hts⟩ (c_X12_writeMonth l D cI cD cJ H.size h h_code h_taped h_tape h_size h_text h_value h_out h_output h_illAt h_format h_sections h_items h_kind h_what h_of h_relation h_bound h_reads h_readSections h_readKind h_readWhat h_readOf h_place h_readRelation h_readBound h_stop h_meant h_row h_exact h_error h_bestError h_m h_e h_digits h_whole h_outputF x_3 p2 (by omega) (by omega) (by assumption) (by omega) (by omega) (by omega) (by omega) (by omega) (by omega)) (cwV 2 hts (goodIn_app (goodIn_r _ [7, 8, 9, 3] rfl (by decide +kernel)) (goodIn_sub i_X12_writeMonth k_X12_writeMonth)) rfl rfl rfl (by decide +kernel) ⟨Nat.le_of_ble_eq_true rfl, Nat.le_of_ble_eq_true rfl⟩) ⟨fun a U g mk q => by obtain ⟨q0, q1, qP, qK, qD⟩ := q; exact ⟨q0, q1, qP, va_K.moved (u := U) (U := U.calling g mk a) (Vm.Alike.refl U.vm) qK, qD⟩, va_recv hK hPc (ci := 9) (q0 := 0) rfl rfl, fun U hU hW => ⟨rfl, by rw [hU], by rw [hU]; exact hPc, va_K.moved hW.alike hK, hDc.weaken (fun _ _ _ _ => trivial)⟩⟩ rfl rfl hl.1 rfl (lv_room (Nat.le_of_ble_eq_true rfl)) dX12_writeDayItem_126 ⟨Nat.le_of_ble_eq_true rfl, Nat.le_of_ble_eq_true rfl⟩) hS (fun q _ h => hFc q h) hFc (fun u t H1 locs ht hvm w_14 hB hz1 hk1 hS => ?_)
            obtain ⟨u_15, u_16⟩ := u
            obtain ⟨hP1, hK1, hD1⟩ := hB
            rw [ht] at hP1
            try dsimp only at w_14
            obtain ⟨hP, hD⟩ := va_join (wr := []) (w1 := [(h, .inr (9, [.int h_code, .int h_taped, .ref h_tape, .int h_size, .ref h_text, .double h_value, .int u_15, .ref h_output, .int h_illAt, .ref h_format, .int h_sections, .int h_items, .ref h_kind, .ref h_what, .ref h_of, .ref h_relation, .ref h_bound, .int h_reads, .int h_readSections, .ref h_readKind, .ref h_readWhat, .ref h_readOf, .ref h_place, .ref h_readRelation, .ref h_readBound, .int h_stop, .ref h_meant, .ref h_row, .ref h_exact, .ref h_error, .ref h_bestError, .long h_m, .int h_e, .ref h_digits, .int h_whole])), (h_output, .inl (cI, 1024, .inl u_16))]) hP hD [0, 1] [] rfl rfl (by decide) (by decide) hk1 hFc hP1 hD1
            generalize H1 = H at hP hS ⊢
            have hP : va_P D vwCl [(h, .inr (9, [.int h_code, .int h_taped, .ref h_tape, .int h_size, .ref h_text, .double h_value, .int u_15, .ref h_output, .int h_illAt, .ref h_format, .int h_sections, .int h_items, .ref h_kind, .ref h_what, .ref h_of, .ref h_relation, .ref h_bound, .int h_reads, .int h_readSections, .ref h_readKind, .ref h_readWhat, .ref h_readOf, .ref h_place, .ref h_readRelation, .ref h_readBound, .int h_stop, .ref h_meant, .ref h_row, .ref h_exact, .ref h_error, .ref h_bestError, .long h_m, .int h_e, .ref h_digits, .int h_whole])), (h_output, .inl (cI, 1024, .inl u_16))] H := hP
            have hD : va_D A [(h, .inr (9, [.int h_code, .int h_taped, .ref h_tape, .int h_size, .ref h_text, .double h_value, .int u_15, .ref h_output, .int h_illAt, .ref h_format, .int h_sections, .int h_items, .ref h_kind, .ref h_what, .ref h_of, .ref h_relation, .ref h_bound, .int h_reads, .int h_readSections, .ref h_readKind, .ref h_readWhat, .ref h_readOf, .ref h_place, .ref h_readRelation, .ref h_readBound, .int h_stop, .ref h_meant, .ref h_row, .ref h_exact, .ref h_error, .ref h_bestError, .long h_m, .int h_e, .ref h_digits, .int h_whole])), (h_output, .inl (cI, 1024, .inl u_16))] := hD
            refine lv_goto (tgt := 143) hx hb dX12_writeDayItem_129 (by decide) ?_
            have hP9 := hP.sub (ws' := [(h, .inr (9, [.int h_code, .int h_taped, .ref h_tape, .int h_size, .ref h_text, .double h_value, .int u_15, .ref h_output, .int h_illAt, .ref h_format, .int h_sections, .int h_items, .ref h_kind, .ref h_what, .ref h_of, .ref h_relation, .ref h_bound, .int h_reads, .int h_readSections, .ref h_readKind, .ref h_readWhat, .ref h_readOf, .ref h_place, .ref h_readRelation, .ref h_readBound, .int h_stop, .ref h_meant, .ref h_row, .ref h_exact, .ref h_error, .ref h_bestError, .long h_m, .int h_e, .ref h_digits, .int h_whole])), (h_output, .inl (cI, 1024, .inl u_16))]) [0, 1] rfl
            have hD9 := hD.sub (ws' := [(h, .inr (9, [.int h_code, .int h_taped, .ref h_tape, .int h_size, .ref h_text, .double h_value, .int u_15, .ref h_output, .int h_illAt, .ref h_format, .int h_sections, .int h_items, .ref h_kind, .ref h_what, .ref h_of, .ref h_relation, .ref h_bound, .int h_reads, .int h_readSections, .ref h_readKind, .ref h_readWhat, .ref h_readOf, .ref h_place, .ref h_readRelation, .ref h_readBound, .int h_stop, .ref h_meant, .ref h_row, .ref h_exact, .ref h_error, .ref h_bestError, .long h_m, .int h_e, .ref h_digits, .int h_whole])), (h_output, .inl (cI, 1024, .inl u_16))]) [0, 1] (by decide) rfl
            exact W.vret hx hb hr (fun t ht hW => ⟨⟨(u_15, u_16), rfl, (by (try dsimp only); first | omega | assumption), by rw [ht]; exact hP9, va_K.moved hW.alike hK, hD9⟩, hS.F ht⟩) hS.2.2 dX12_writeDayItem_143
        · have ic_8 : (p1 : Int32).toInt = (121 : Int32).toInt := (fa_eq p1 121).mp c_8
          refine lv_aload_n hx hb dX12_writeDayItem_82 rfl (lv_at hl 3 rfl) ?_
          refine lv_iload_n hx hb dX12_writeDayItem_83 rfl (lv_at hl 5 rfl) ?_
          refine lv_iconst (v := 3) hx hb dX12_writeDayItem_84 (by decide) ?_
          have K_100 : ∀ (z_17 : Int64) (H : Heap) (locs : List Loc) (ls : Array Slot), va_P D vwCl [(h, .inr (9, [.int h_code, .int h_taped, .ref h_tape, .int h_size, .ref h_text, .double h_value, .int h_out, .ref h_output, .int h_illAt, .ref h_format, .int h_sections, .int h_items, .ref h_kind, .ref h_what, .ref h_of, .ref h_relation, .ref h_bound, .int h_reads, .int h_readSections, .ref h_readKind, .ref h_readWhat, .ref h_readOf, .ref h_place, .ref h_readRelation, .ref h_readBound, .int h_stop, .ref h_meant, .ref h_row, .ref h_exact, .ref h_error, .ref h_bestError, .long h_m, .int h_e, .ref h_digits, .int h_whole])), (h_output, .inl (cI, 1024, .inl h_outputF))] H → va_D A [(h, .inr (9, [.int h_code, .int h_taped, .ref h_tape, .int h_size, .ref h_text, .double h_value, .int h_out, .ref h_output, .int h_illAt, .ref h_format, .int h_sections, .int h_items, .ref h_kind, .ref h_what, .ref h_of, .ref h_relation, .ref h_bound, .int h_reads, .int h_readSections, .ref h_readKind, .ref h_readWhat, .ref h_readOf, .ref h_place, .ref h_readRelation, .ref h_readBound, .int h_stop, .ref h_meant, .ref h_row, .ref h_exact, .ref h_error, .ref h_bestError, .long h_m, .int h_e, .ref h_digits, .int h_whole])), (h_output, .inl (cI, 1024, .inl h_outputF))] → va_S A s.heap H locs → lv_has ls 7 [(2, .int p2)] → Z 0 0 H locs (F0 m 100 ls [.long z_17, .ref h]) := by
            intro z_17 H locs ls  hP hD hS hl
            refine hZ2 ?_
            refine lv_iload_n hx hb dX12_writeDayItem_100 rfl (lv_at hl 0 rfl) ?_
            refine lv_iconst (v := 3) hx hb dX12_writeDayItem_101 (by decide) ?_
            have K_110 : ∀ (z_18 : Int32) (H : Heap) (locs : List Loc) (ls : Array Slot), va_P D vwCl [(h, .inr (9, [.int h_code, .int h_taped, .ref h_tape, .int h_size, .ref h_text, .double h_value, .int h_out, .ref h_output, .int h_illAt, .ref h_format, .int h_sections, .int h_items, .ref h_kind, .ref h_what, .ref h_of, .ref h_relation, .ref h_bound, .int h_reads, .int h_readSections, .ref h_readKind, .ref h_readWhat, .ref h_readOf, .ref h_place, .ref h_readRelation, .ref h_readBound, .int h_stop, .ref h_meant, .ref h_row, .ref h_exact, .ref h_error, .ref h_bestError, .long h_m, .int h_e, .ref h_digits, .int h_whole])), (h_output, .inl (cI, 1024, .inl h_outputF))] H → va_D A [(h, .inr (9, [.int h_code, .int h_taped, .ref h_tape, .int h_size, .ref h_text, .double h_value, .int h_out, .ref h_output, .int h_illAt, .ref h_format, .int h_sections, .int h_items, .ref h_kind, .ref h_what, .ref h_of, .ref h_relation, .ref h_bound, .int h_reads, .int h_readSections, .ref h_readKind, .ref h_readWhat, .ref h_readOf, .ref h_place, .ref h_readRelation, .ref h_readBound, .int h_stop, .ref h_meant, .ref h_row, .ref h_exact, .ref h_error, .ref h_bestError, .long h_m, .int h_e, .ref h_digits, .int h_whole])), (h_output, .inl (cI, 1024, .inl h_outputF))] → va_S A s.heap H locs → lv_has ls 7 [] → Z 0 0 H locs (F0 m 110 ls [.int z_18, .long z_17, .ref h]) := by
              intro z_18 H locs ls  hP hD hS hl
              refine hZ2 ?_
              have hPc := hP.sub (ws' := [(h, .inr (9, [.int h_code, .int h_taped, .ref h_tape, .int h_size, .ref h_text, .double h_value, .int h_out, .ref h_output, .int h_illAt, .ref h_format, .int h_sections, .int h_items, .ref h_kind, .ref h_what, .ref h_of, .ref h_relation, .ref h_bound, .int h_reads, .int h_readSections, .ref h_readKind, .ref h_readWhat, .ref h_readOf, .ref h_place, .ref h_readRelation, .ref h_readBound, .int h_stop, .ref h_meant, .ref h_row, .ref h_exact, .ref h_error, .ref h_bestError, .long h_m, .int h_e, .ref h_digits, .int h_whole])), (h_output, .inl (cI, 1024, .inl h_outputF))]) [0, 1] rfl
              have hDc := hD.sub (ws' := [(h, .inr (9, [.int h_code, .int h_taped, .ref h_tape, .int h_size, .ref h_text, .double h_value, .int h_out, .ref h_output, .int h_illAt, .ref h_format, .int h_sections, .int h_items, .ref h_kind, .ref h_what, .ref h_of, .ref h_relation, .ref h_bound, .int h_reads, .int h_readSections, .ref h_readKind, .ref h_readWhat, .ref h_readOf, .ref h_place, .ref h_readRelation, .ref h_readBound, .int h_stop, .ref h_meant, .ref h_row, .ref h_exact, .ref h_error, .ref h_bestError, .long h_m, .int h_e, .ref h_digits, .int h_whole])), (h_output, .inl (cI, 1024, .inl h_outputF))]) [0, 1] (by decide) rfl
              have hFc := va_free (wc := [(h, .inr (9, [.int h_code, .int h_taped, .ref h_tape, .int h_size, .ref h_text, .double h_value, .int h_out, .ref h_output, .int h_illAt, .ref h_format, .int h_sections, .int h_items, .ref h_kind, .ref h_what, .ref h_of, .ref h_relation, .ref h_bound, .int h_reads, .int h_readSections, .ref h_readKind, .ref h_readWhat, .ref h_readOf, .ref h_place, .ref h_readRelation, .ref h_readBound, .int h_stop, .ref h_meant, .ref h_row, .ref h_exact, .ref h_error, .ref h_bestError, .long h_m, .int h_e, .ref h_digits, .int h_whole])), (h_output, .inl (cI, 1024, .inl h_outputF))]) hD hS hA [0, 1] rfl
              refine va_callv (va_runV (As := [.long z_17, .int z_18]) (rest := []) ⟨hx, hb, hml, hown, hts⟩ (c_X12_writeNumber l D cI cD cJ H.size h h_code h_taped h_tape h_size h_text h_value h_out h_output h_illAt h_format h_sections h_items h_kind h_what h_of h_relation h_bound h_reads h_readSections h_readKind h_readWhat h_readOf h_place h_readRelation h_readBound h_stop h_meant h_row h_exact h_error h_bestError h_m h_e h_digits h_whole h_outputF z_17 z_18 (by omega) (by omega) (by assumption) (by omega) (by omega) (by omega) (by omega) (by omega) (by omega)) (cwV 2 hts (goodIn_app (goodIn_r _ [10, 11, 12, 3] rfl (by decide +kernel)) (goodIn_sub i_X12_writeNumber k_X12_writeNumber)) rfl rfl rfl (by decide +kernel) ⟨Nat.le_of_ble_eq_true rfl, Nat.le_of_ble_eq_true rfl⟩) ⟨fun a U g mk q => by obtain ⟨q0, q1, qP, qK, qD⟩ := q; exact ⟨q0, q1, qP, va_K.moved (u := U) (U := U.calling g mk a) (Vm.Alike.refl U.vm) qK, qD⟩, va_recv hK hPc (ci := 9) (q0 := 0) rfl rfl, fun U hU hW => ⟨rfl, by rw [hU], by rw [hU]; exact hPc, va_K.moved hW.alike hK, hDc.weaken (fun _ _ _ _ => trivial)⟩⟩ rfl rfl hl.1 rfl (lv_room (Nat.le_of_ble_eq_true rfl)) dX12_writeDayItem_110 ⟨Nat.le_of_ble_eq_true rfl, Nat.le_of_ble_eq_true rfl⟩) hS (fun q _ h => hFc q h) hFc (fun u t H1 locs ht hvm w_19 hB hz1 hk1 hS => ?_)
              obtain ⟨u_20, u_21⟩ := u
              obtain ⟨hP1, hK1, hD1⟩ := hB
              rw [ht] at hP1
              try dsimp only at w_19
              obtain ⟨hP, hD⟩ := va_join (wr := []) (w1 := [(h, .inr (9, [.int h_code, .int h_taped, .ref h_tape, .int h_size, .ref h_text, .double h_value, .int u_20, .ref h_output, .int h_illAt, .ref h_format, .int h_sections, .int h_items, .ref h_kind, .ref h_what, .ref h_of, .ref h_relation, .ref h_bound, .int h_reads, .int h_readSections, .ref h_readKind, .ref h_readWhat, .ref h_readOf, .ref h_place, .ref h_readRelation, .ref h_readBound, .int h_stop, .ref h_meant, .ref h_row, .ref h_exact, .ref h_error, .ref h_bestError, .long h_m, .int h_e, .ref h_digits, .int h_whole])), (h_output, .inl (cI, 1024, .inl u_21))]) hP hD [0, 1] [] rfl rfl (by decide) (by decide) hk1 hFc hP1 hD1
              generalize H1 = H at hP hS ⊢
              have hP : va_P D vwCl [(h, .inr (9, [.int h_code, .int h_taped, .ref h_tape, .int h_size, .ref h_text, .double h_value, .int u_20, .ref h_output, .int h_illAt, .ref h_format, .int h_sections, .int h_items, .ref h_kind, .ref h_what, .ref h_of, .ref h_relation, .ref h_bound, .int h_reads, .int h_readSections, .ref h_readKind, .ref h_readWhat, .ref h_readOf, .ref h_place, .ref h_readRelation, .ref h_readBound, .int h_stop, .ref h_meant, .ref h_row, .ref h_exact, .ref h_error, .ref h_bestError, .long h_m, .int h_e, .ref h_digits, .int h_whole])), (h_output, .inl (cI, 1024, .inl u_21))] H := hP
              have hD : va_D A [(h, .inr (9, [.int h_code, .int h_taped, .ref h_tape, .int h_size, .ref h_text, .double h_value, .int u_20, .ref h_output, .int h_illAt, .ref h_format, .int h_sections, .int h_items, .ref h_kind, .ref h_what, .ref h_of, .ref h_relation, .ref h_bound, .int h_reads, .int h_readSections, .ref h_readKind, .ref h_readWhat, .ref h_readOf, .ref h_place, .ref h_readRelation, .ref h_readBound, .int h_stop, .ref h_meant, .ref h_row, .ref h_exact, .ref h_error, .ref h_bestError, .long h_m, .int h_e, .ref h_digits, .int h_whole])), (h_output, .inl (cI, 1024, .inl u_21))] := hD
              refine lv_goto (tgt := 143) hx hb dX12_writeDayItem_113 (by decide) ?_
              have hP9 := hP.sub (ws' := [(h, .inr (9, [.int h_code, .int h_taped, .ref h_tape, .int h_size, .ref h_text, .double h_value, .int u_20, .ref h_output, .int h_illAt, .ref h_format, .int h_sections, .int h_items, .ref h_kind, .ref h_what, .ref h_of, .ref h_relation, .ref h_bound, .int h_reads, .int h_readSections, .ref h_readKind, .ref h_readWhat, .ref h_readOf, .ref h_place, .ref h_readRelation, .ref h_readBound, .int h_stop, .ref h_meant, .ref h_row, .ref h_exact, .ref h_error, .ref h_bestError, .long h_m, .int h_e, .ref h_digits, .int h_whole])), (h_output, .inl (cI, 1024, .inl u_21))]) [0, 1] rfl
              have hD9 := hD.sub (ws' := [(h, .inr (9, [.int h_code, .int h_taped, .ref h_tape, .int h_size, .ref h_text, .double h_value, .int u_20, .ref h_output, .int h_illAt, .ref h_format, .int h_sections, .int h_items, .ref h_kind, .ref h_what, .ref h_of, .ref h_relation, .ref h_bound, .int h_reads, .int h_readSections, .ref h_readKind, .ref h_readWhat, .ref h_readOf, .ref h_place, .ref h_readRelation, .ref h_readBound, .int h_stop, .ref h_meant, .ref h_row, .ref h_exact, .ref h_error, .ref h_bestError, .long h_m, .int h_e, .ref h_digits, .int h_whole])), (h_output, .inl (cI, 1024, .inl u_21))]) [0, 1] (by decide) rfl
              exact W.vret hx hb hr (fun t ht hW => ⟨⟨(u_20, u_21), rfl, (by (try dsimp only); first | omega | assumption), by rw [ht]; exact hP9, va_K.moved hW.alike hK, hD9⟩, hS.F ht⟩) hS.2.2 dX12_writeDayItem_143
            refine lv_icmp_ge (tgt := 109) hx hb dX12_writeDayItem_102 (by decide) (fun c_22 => ?_) (fun c_22 => ?_)
            · have ic_22 : (3 : Int32).toInt ≤ (p2 : Int32).toInt := (fa_le 3 p2).mp c_22
              refine lv_iconst (v := 4) hx hb dX12_writeDayItem_109 (by decide) ?_
              exact hZ1 (K_110 4 _ _ _ hP hD hS (lv_sub hl [] rfl))
            · have ic_22 : ¬ ((3 : Int32).toInt ≤ (p2 : Int32).toInt) := fun h9 => c_22 ((fa_le 3 p2).mpr h9)
              refine lv_iconst (v := 2) hx hb dX12_writeDayItem_105 (by decide) ?_
              refine lv_goto (tgt := 110) hx hb dX12_writeDayItem_106 (by decide) ?_
              exact hZ1 (K_110 2 _ _ _ hP hD hS (lv_sub hl [] rfl))
          refine lv_icmp_ge (tgt := 97) hx hb dX12_writeDayItem_85 (by decide) (fun c_23 => ?_) (fun c_23 => ?_)
          · have ic_23 : (3 : Int32).toInt ≤ (p2 : Int32).toInt := (fa_le 3 p2).mp c_23
            refine lv_iload hx hb dX12_writeDayItem_97 (lv_at hl 2 rfl) ?_
            refine lv_i2l hx hb dX12_writeDayItem_99 rfl ?_
            refine lv_topl (fun y_24 ey_24 => ?_)
            have ty_24 := tl_i2l ey_24
            exact hZ1 (K_100 y_24 _ _ _ hP hD hS (lv_sub hl [5] rfl))
          · have ic_23 : ¬ ((3 : Int32).toInt ≤ (p2 : Int32).toInt) := fun h9 => c_23 ((fa_le 3 p2).mpr h9)
            refine lv_iload hx hb dX12_writeDayItem_88 (lv_at hl 2 rfl) ?_
            refine lv_bipush (v := 100) hx hb dX12_writeDayItem_90 (by decide) ?_
            refine lv_irem hx hb dX12_writeDayItem_92 (by decide) ?_
            refine lv_topi (fun x_25 ex_25 => ?_)
            have tx_25 := ti_rem ex_25 (by decide)
            rw [n_100] at tx_25
            try (have ux_25 := ti_remE ex_25 (by decide) (by omega); rw [n_100] at ux_25)
            refine lv_i2l hx hb dX12_writeDayItem_93 rfl ?_
            refine lv_topl (fun y_26 ey_26 => ?_)
            have ty_26 := tl_i2l ey_26
            refine lv_goto (tgt := 100) hx hb dX12_writeDayItem_94 (by decide) ?_
            exact hZ1 (K_100 y_26 _ _ _ hP hD hS (lv_sub hl [5] rfl))
      · have ic_7 : ¬ ((x_2 : Int32).toInt ≤ (x_5 : Int32).toInt) := fun h9 => c_7 ((fa_le x_2 x_5).mpr h9)
        refine lv_iload hx hb dX12_writeDayItem_27 (lv_at hl 0 rfl) ?_
        refine lv_iload hx hb dX12_writeDayItem_29 (lv_at hl 2 rfl) ?_
        refine lv_iload hx hb dX12_writeDayItem_31 (lv_at hl 1 rfl) ?_
        have hPc := hP.sub (ws' := []) [] rfl
        refine va_calli (va_runS (As := [.int x_4, .int x_3]) (rest := [.int x_2]) ⟨hx, hb, hml, hown, hts⟩ (c_X12_daysOf l D cI cD cJ H.size x_4 x_3) (va_cwS 2 hts (goodIn_app (goodIn_r _ [1, 2, 3] rfl (by decide +kernel)) (goodIn_sub i_X12_daysOf k_X12_daysOf)) rfl rfl rfl (by decide +kernel) ⟨Nat.le_of_ble_eq_true rfl, Nat.le_of_ble_eq_true rfl⟩) ⟨fun a U g mk q => by obtain ⟨q0, qP, qK⟩ := q; exact ⟨q0, qP, va_K.moved (u := U) (U := U.calling g mk a) (Vm.Alike.refl U.vm) qK⟩, fun U hU hW => ⟨rfl, by rw [hU]; exact hPc, va_K.moved hW.alike hK⟩⟩ rfl rfl hl.1 rfl (lv_room (Nat.le_of_ble_eq_true rfl)) dX12_writeDayItem_33 ⟨Nat.le_of_ble_eq_true rfl, Nat.le_of_ble_eq_true rfl⟩) hS (fun q _ h => h.elim) (fun q h => h.elim) (fun x_27 u t H1 locs ht hvm w_28 hB hz1 hk1 hS => ?_)
        have hP : va_P D vwCl [(h, .inr (9, [.int h_code, .int h_taped, .ref h_tape, .int h_size, .ref h_text, .double h_value, .int h_out, .ref h_output, .int h_illAt, .ref h_format, .int h_sections, .int h_items, .ref h_kind, .ref h_what, .ref h_of, .ref h_relation, .ref h_bound, .int h_reads, .int h_readSections, .ref h_readKind, .ref h_readWhat, .ref h_readOf, .ref h_place, .ref h_readRelation, .ref h_readBound, .int h_stop, .ref h_meant, .ref h_row, .ref h_exact, .ref h_error, .ref h_bestError, .long h_m, .int h_e, .ref h_digits, .int h_whole])), (h_output, .inl (cI, 1024, .inl h_outputF))] H1 := hP.kept (fun k9 q9 h9 => hk1 q9.1 (vx_lt hP h9) (fun h => h))
        generalize H1 = H at hP hS ⊢
        try dsimp only at w_28
        refine lv_isub hx hb dX12_writeDayItem_36 ?_
        refine lv_topi (fun x_29 ex_29 => ?_)
        have b_x_2 := ti_b x_2
        have b_x_27 := ti_b x_27
        have tx_29 := ti_sub ex_29
        refine lv_istore (lv' := [(6, .int x_29), (5, .int x_3), (4, .int x_4), (0, .ref h), (1, .int p1), (2, .int p2), (3, .int p3)]) hx hb dX12_writeDayItem_37 hl (by decide) rfl (fun ls hl => ?_)
        refine lv_iload hx hb dX12_writeDayItem_39 (lv_at hl 2 rfl) ?_
        refine lv_iload hx hb dX12_writeDayItem_41 (lv_at hl 1 rfl) ?_
        refine lv_bipush (v := 12) hx hb dX12_writeDayItem_43 (by decide) ?_
        have K_53 : ∀ (z_30 : Int32) (H : Heap) (locs : List Loc) (ls : Array Slot), ((z_30 : Int32).toInt = 0 ∨ (z_30 : Int32).toInt = 1) → va_P D vwCl [(h, .inr (9, [.int h_code, .int h_taped, .ref h_tape, .int h_size, .ref h_text, .double h_value, .int h_out, .ref h_output, .int h_illAt, .ref h_format, .int h_sections, .int h_items, .ref h_kind, .ref h_what, .ref h_of, .ref h_relation, .ref h_bound, .int h_reads, .int h_readSections, .ref h_readKind, .ref h_readWhat, .ref h_readOf, .ref h_place, .ref h_readRelation, .ref h_readBound, .int h_stop, .ref h_meant, .ref h_row, .ref h_exact, .ref h_error, .ref h_bestError, .long h_m, .int h_e, .ref h_digits, .int h_whole])), (h_output, .inl (cI, 1024, .inl h_outputF))] H → va_D A [(h, .inr (9, [.int h_code, .int h_taped, .ref h_tape, .int h_size, .ref h_text, .double h_value, .int h_out, .ref h_output, .int h_illAt, .ref h_format, .int h_sections, .int h_items, .ref h_kind, .ref h_what, .ref h_of, .ref h_relation, .ref h_bound, .int h_reads, .int h_readSections, .ref h_readKind, .ref h_readWhat, .ref h_readOf, .ref h_place, .ref h_readRelation, .ref h_readBound, .int h_stop, .ref h_meant, .ref h_row, .ref h_exact, .ref h_error, .ref h_bestError, .long h_m, .int h_e, .ref h_digits, .int h_whole])), (h_output, .inl (cI, 1024, .inl h_outputF))] → va_S A s.heap H locs → lv_has ls 7 [(6, .int x_29), (5, .int x_3), (0, .ref h), (1, .int p1), (2, .int p2), (3, .int p3)] → Z 0 0 H locs (F0 m 53 ls [.int z_30, .int x_4]) := by
          intro z_30 H locs ls g53_0 hP hD hS hl
          refine hZ2 ?_
          refine lv_iadd hx hb dX12_writeDayItem_53 ?_
          refine lv_topi (fun x_31 ex_31 => ?_)
          have b_x_4 := ti_b x_4
          have b_z_30 := ti_b z_30
          have tx_31 := ti_add ex_31
          refine lv_istore (lv' := [(4, .int x_31), (6, .int x_29), (5, .int x_3), (0, .ref h), (1, .int p1), (2, .int p2), (3, .int p3)]) hx hb dX12_writeDayItem_54 hl (by decide) rfl (fun ls hl => ?_)
          refine lv_iload hx hb dX12_writeDayItem_56 (lv_at hl 2 rfl) ?_
          refine lv_bipush (v := 12) hx hb dX12_writeDayItem_58 (by decide) ?_
          have K_71 : ∀ (z_32 : Int32) (H : Heap) (locs : List Loc) (ls : Array Slot), va_P D vwCl [(h, .inr (9, [.int h_code, .int h_taped, .ref h_tape, .int h_size, .ref h_text, .double h_value, .int h_out, .ref h_output, .int h_illAt, .ref h_format, .int h_sections, .int h_items, .ref h_kind, .ref h_what, .ref h_of, .ref h_relation, .ref h_bound, .int h_reads, .int h_readSections, .ref h_readKind, .ref h_readWhat, .ref h_readOf, .ref h_place, .ref h_readRelation, .ref h_readBound, .int h_stop, .ref h_meant, .ref h_row, .ref h_exact, .ref h_error, .ref h_bestError, .long h_m, .int h_e, .ref h_digits, .int h_whole])), (h_output, .inl (cI, 1024, .inl h_outputF))] H → va_D A [(h, .inr (9, [.int h_code, .int h_taped, .ref h_tape, .int h_size, .ref h_text, .double h_value, .int h_out, .ref h_output, .int h_illAt, .ref h_format, .int h_sections, .int h_items, .ref h_kind, .ref h_what, .ref h_of, .ref h_relation, .ref h_bound, .int h_reads, .int h_readSections, .ref h_readKind, .ref h_readWhat, .ref h_readOf, .ref h_place, .ref h_readRelation, .ref h_readBound, .int h_stop, .ref h_meant, .ref h_row, .ref h_exact, .ref h_error, .ref h_bestError, .long h_m, .int h_e, .ref h_digits, .int h_whole])), (h_output, .inl (cI, 1024, .inl h_outputF))] → va_S A s.heap H locs → lv_has ls 7 [(4, .int x_31), (6, .int x_29), (0, .ref h), (1, .int p1), (2, .int p2), (3, .int p3)] → Z 0 0 H locs (F0 m 71 ls [.int z_32]) := by
            intro z_32 H locs ls  hP hD hS hl
            refine hZ2 ?_
            refine lv_istore (lv' := [(5, .int z_32), (4, .int x_31), (6, .int x_29), (0, .ref h), (1, .int p1), (2, .int p2), (3, .int p3)]) hx hb dX12_writeDayItem_71 hl (by decide) rfl (fun ls hl => ?_)
            refine lv_goto (tgt := 15) hx hb dX12_writeDayItem_73 (by decide) ?_
            exact hZ1 (ih_15 x_29 z_32 x_31 _ _ _ (by omega) hP hD hS (lv_sub hl [2, 0, 1, 3, 4, 5, 6] rfl))
          refine lv_icmp_ne (tgt := 67) hx hb dX12_writeDayItem_60 (by decide) (fun c_33 => ?_) (fun c_33 => ?_)
          · have ic_33 : ¬ ((x_3 : Int32).toInt = (12 : Int32).toInt) := fun h9 => c_33 ((fa_eq x_3 12).mpr h9)
            refine lv_iload hx hb dX12_writeDayItem_67 (lv_at hl 2 rfl) ?_
            refine lv_iconst (v := 1) hx hb dX12_writeDayItem_69 (by decide) ?_
            refine lv_iadd hx hb dX12_writeDayItem_70 ?_
            refine lv_topi (fun x_34 ex_34 => ?_)
            have b_x_3 := ti_b x_3
            have tx_34 := ti_add ex_34
            exact hZ1 (K_71 x_34 _ _ _ hP hD hS (lv_sub hl [0, 1, 3, 4, 5, 6] rfl))
          · have ic_33 : (x_3 : Int32).toInt = (12 : Int32).toInt := (fa_eq x_3 12).mp c_33
            refine lv_iconst (v := 1) hx hb dX12_writeDayItem_63 (by decide) ?_
            refine lv_goto (tgt := 71) hx hb dX12_writeDayItem_64 (by decide) ?_
            exact hZ1 (K_71 1 _ _ _ hP hD hS (lv_sub hl [0, 1, 3, 4, 5, 6] rfl))
        refine lv_icmp_ne (tgt := 52) hx hb dX12_writeDayItem_45 (by decide) (fun c_35 => ?_) (fun c_35 => ?_)
        · have ic_35 : ¬ ((x_3 : Int32).toInt = (12 : Int32).toInt) := fun h9 => c_35 ((fa_eq x_3 12).mpr h9)
          refine lv_iconst (v := 0) hx hb dX12_writeDayItem_52 (by decide) ?_
          exact hZ1 (K_53 0 _ _ _ (by omega) hP hD hS (lv_sub hl [0, 1, 3, 4, 5, 6] rfl))
        · have ic_35 : (x_3 : Int32).toInt = (12 : Int32).toInt := (fa_eq x_3 12).mp c_35
          refine lv_iconst (v := 1) hx hb dX12_writeDayItem_48 (by decide) ?_
          refine lv_goto (tgt := 53) hx hb dX12_writeDayItem_49 (by decide) ?_
          exact hZ1 (K_53 1 _ _ _ (by omega) hP hD hS (lv_sub hl [0, 1, 3, 4, 5, 6] rfl))
  exact hZ1 (L_15 (((x_1 : Int32).toInt.toNat) + 1) x_1 12 1899 _ _ _ (by omega) hP hD hS hl)

