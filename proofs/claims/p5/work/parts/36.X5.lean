def ow_X5_hasRightSlash : List Cond := [Cond.methodLink RX5 45 yX2_findIn, Cond.instanceMethod yX2_findIn, Cond.selects RX2 yX2_findIn yX2_findIn, Cond.initialized RX2, Cond.methodLink RX5 53 yX2_kindIn, Cond.instanceMethod yX2_kindIn, Cond.selects RX2 yX2_kindIn yX2_kindIn]
def pw_X5_hasRightSlash : List Cond := Cond.code yX5_hasRightSlash cX5_hasRightSlash 4 (some .boolean) :: (ow_X5_hasRightSlash ++ (pw_X2_findIn ++ (pw_X2_kindIn)))
set_option maxRecDepth 20000 in
theorem mo_X5_hasRightSlash : ∀ w ∈ ow_X5_hasRightSlash, w ∈ lw_tbl := by decide +kernel
set_option maxRecDepth 20000 in
theorem mc_X5_hasRightSlash : Cond.code yX5_hasRightSlash cX5_hasRightSlash 4 (some .boolean) ∈ lw_tbl := by decide +kernel
theorem m_X5_hasRightSlash : ∀ w ∈ pw_X5_hasRightSlash, w ∈ lw_tbl := List.forall_mem_cons.mpr ⟨mc_X5_hasRightSlash, (List.forall_mem_append.mpr ⟨mo_X5_hasRightSlash, (List.forall_mem_append.mpr ⟨m_X2_findIn, m_X2_kindIn⟩)⟩)⟩
theorem ko_X5_hasRightSlash : ∀ w ∈ ow_X5_hasRightSlash, goodWord w = true := by decide +kernel
theorem k_X5_hasRightSlash : pw_X5_hasRightSlash.all goodWord = true := List.all_eq_true.mpr (List.forall_mem_cons.mpr ⟨by decide +kernel, (List.forall_mem_append.mpr ⟨ko_X5_hasRightSlash, (List.forall_mem_append.mpr ⟨(List.all_eq_true.mp k_X2_findIn), (List.all_eq_true.mp k_X2_kindIn)⟩)⟩)⟩)
set_option maxHeartbeats 400000 in
set_option maxRecDepth 100000 in
theorem c_X5_hasRightSlash (l : Launch) (D : va_G) (cI cD cJ : ClassId) (sz : Nat) (f : Nat) (f_kinds : Nat) (f_signs : Nat) (f_sizes : Nat) (f_places : Nat) (f_limits : Nat) (f_starts : Nat) (f_sorts : Nat) (f_count : Int32) (f_sections : Int32) (f_fifth : Int32) (f_kindsF : Nat → Int32) (f_startsF : Nat → Int32) (p1 : Int32) (hs9 : p1.toInt ≤ 4) (iv_f_count : 0 ≤ (f_count : Int32).toInt ∧ (f_count : Int32).toInt ≤ 255) (iv_f_sections : 0 ≤ (f_sections : Int32).toInt ∧ (f_sections : Int32).toInt ≤ 4) (iv_f_startsF : ∀ k9 : Nat, k9 < 4 → 0 ≤ (f_startsF k9).toInt ∧ (f_startsF k9).toInt ≤ 255) : Met l yX5_hasRightSlash pw_X5_hasRightSlash ({ frames := 3, cells := 0, slots := 0, locals := 67 }) (va_Pc [.ref f, .int p1] (fun U => va_P D vwCl [(f, .inr (2, [.ref f_kinds, .ref f_signs, .ref f_sizes, .ref f_places, .ref f_limits, .ref f_starts, .ref f_sorts, .int f_count, .int f_sections, .int f_fifth])), (f_kinds, .inl (cI, 255, .inl f_kindsF)), (f_starts, .inl (cI, 4, .inl f_startsF))] U.heap ∧ va_K D vwCl (ty3 cI cD cJ) U)) (va_Qi (fun (r : Int32) (u : Unit) => (r.toInt = 0 ∨ r.toInt = 1)) (fun _ _ => True) (fun _ => False)) 0 0 (fun _ => False) := by
  refine Met.ofW (cc := cX5_hasRightSlash) (maxL := 4) (ret := (some .boolean)) (by decide +kernel) rfl ?_
  intro p e s m args below meth c s₁ B hml hv
  obtain ⟨rfl, hP, hK⟩ := hv
  have hx := B.exec
  have hb := B.bytes
  have hr := B.returns
  have hts := atoms_spec (ws := pw_X5_hasRightSlash) B.pre
  have hown : s.vm.findClass RX5 = some m.cls := findClass_of_methodNamed B.named
  have hlocks := B.notSynchronized
  have hS : va_S (fun _ => False) s.heap s.heap [] := va_S.rf
  have hw : ∀ (k : Nat) (w : Cond), ow_X5_hasRightSlash[k]? = some w → w.before _ s = true := fun k w h => hts w (List.mem_cons_of_mem _ (have h9 := List.mem_of_getElem? h; List.mem_append_left _ h9))
  have i_X2_findIn : ∀ w ∈ pw_X2_findIn, w ∈ pw_X5_hasRightSlash := fun w h9 => List.mem_cons_of_mem _ (List.mem_append_right _ (List.mem_append_left _ h9))
  have i_X2_kindIn : ∀ w ∈ pw_X2_kindIn, w ∈ pw_X5_hasRightSlash := fun w h9 => List.mem_cons_of_mem _ (List.mem_append_right _ (List.mem_append_right _ (h9)))
  have n_m1 : (((-1) : Int32)).toInt = (-1) := by decide
  have n_0 : ((0 : Int32)).toInt = 0 := by decide
  have n_1 : ((1 : Int32)).toInt = 1 := by decide
  have n_14 : ((14 : Int32)).toInt = 14 := by decide
  have n_4 : ((4 : Int32)).toInt = 4 := by decide
  have n_8 : ((8 : Int32)).toInt = 8 := by decide
  have hl := lv_entry ([.ref f, .int p1]) (n := 4) (Nat.le_of_ble_eq_true rfl)
  rw [lg_entry_eq]
  generalize (lg_sl ([.ref f, .int p1]) ++ List.replicate (4 - (lg_sl ([.ref f, .int p1])).length) Slot.unset).toArray = ls at hl ⊢
  have hl : lv_has ls 4 [(0, .ref f), (1, .int p1)] := hl
  have b_p1 := ti_b p1
  refine zz_cap (fun Z hZ1 hZ2 => ?_)
  refine lv_aload_n hx hb dX5_hasRightSlash_0 rfl (lv_at hl 0 rfl) ?_
  refine lv_iload_n hx hb dX5_hasRightSlash_1 rfl (lv_at hl 1 rfl) ?_
  refine lv_bipush (v := 8) hx hb dX5_hasRightSlash_2 (by decide) ?_
  have hPc := hP.sub (ws' := [(f, .inr (2, [.ref f_kinds, .ref f_signs, .ref f_sizes, .ref f_places, .ref f_limits, .ref f_starts, .ref f_sorts, .int f_count, .int f_sections, .int f_fifth])), (f_kinds, .inl (cI, 255, .inl f_kindsF)), (f_starts, .inl (cI, 4, .inl f_startsF))]) [0, 1, 2] rfl
  refine va_calli (va_runV (As := [.int p1, .int 8]) (rest := []) ⟨hx, hb, hml, hown, hts⟩ (c_X2_findIn l D cI cD cJ s.heap.size f f_kinds f_signs f_sizes f_places f_limits f_starts f_sorts f_count f_sections f_fifth f_kindsF f_startsF p1 8 (by omega) (by omega) (by omega) (by assumption)) (cwV 2 hts (goodIn_app (goodIn_r _ [1, 2, 3, 4] rfl (by decide +kernel)) (goodIn_sub i_X2_findIn k_X2_findIn)) rfl rfl rfl (by decide +kernel) ⟨Nat.le_of_ble_eq_true rfl, Nat.le_of_ble_eq_true rfl⟩) ⟨fun a U g mk q => by obtain ⟨q0, qP, qK⟩ := q; exact ⟨q0, qP, va_K.moved (u := U) (U := U.calling g mk a) (Vm.Alike.refl U.vm) qK⟩, va_recv hK hPc (ci := 2) (q0 := 0) rfl rfl, fun U hU hW => ⟨rfl, by rw [hU]; exact hPc, va_K.moved hW.alike hK⟩⟩ rfl rfl hl.1 rfl (lv_room (Nat.le_of_ble_eq_true rfl)) dX5_hasRightSlash_4 ⟨Nat.le_of_ble_eq_true rfl, Nat.le_of_ble_eq_true rfl⟩) hS (fun q _ h => h.elim) (fun q h => h.elim) (fun x_1 u t H1 locs ht hvm w_2 hB hz1 hk1 hS => ?_)
  have hP : va_P D vwCl [(f, .inr (2, [.ref f_kinds, .ref f_signs, .ref f_sizes, .ref f_places, .ref f_limits, .ref f_starts, .ref f_sorts, .int f_count, .int f_sections, .int f_fifth])), (f_kinds, .inl (cI, 255, .inl f_kindsF)), (f_starts, .inl (cI, 4, .inl f_startsF))] H1 := hP.kept (fun k9 q9 h9 => hk1 q9.1 (vx_lt hP h9) (fun h => h))
  generalize H1 = H at hP hS ⊢
  try dsimp only at w_2
  refine lv_istore_n (lv' := [(2, .int x_1), (0, .ref f), (1, .int p1)]) hx hb dX5_hasRightSlash_7 rfl hl (by decide) rfl (fun ls hl => ?_)
  refine lv_iload_n hx hb dX5_hasRightSlash_8 rfl (lv_at hl 0 rfl) ?_
  refine lv_iconst (v := (-1)) hx hb dX5_hasRightSlash_9 (by decide) ?_
  refine lv_icmp_eq (tgt := 25) hx hb dX5_hasRightSlash_10 (by decide) (fun c_3 => ?_) (fun c_3 => ?_)
  · have ic_3 : (x_1 : Int32).toInt = ((-1) : Int32).toInt := (fa_eq x_1 (-1)).mp c_3
    refine lv_iconst (v := 0) hx hb dX5_hasRightSlash_25 (by decide) ?_
    exact W.zret (v := 0) hx hb hr rfl (fun t ht hW => ⟨⟨0, (), rfl, (by (try dsimp only); first | omega | assumption), trivial⟩, hS.F ht⟩) hS.2.2 dX5_hasRightSlash_26
  · have ic_3 : ¬ ((x_1 : Int32).toInt = ((-1) : Int32).toInt) := fun h9 => c_3 ((fa_eq x_1 (-1)).mpr h9)
    refine lv_aload_n hx hb dX5_hasRightSlash_13 rfl (lv_at hl 1 rfl) ?_
    refine lv_iload_n hx hb dX5_hasRightSlash_14 rfl (lv_at hl 2 rfl) ?_
    refine lv_iload_n hx hb dX5_hasRightSlash_15 rfl (lv_at hl 0 rfl) ?_
    refine lv_iconst (v := 1) hx hb dX5_hasRightSlash_16 (by decide) ?_
    refine lv_isub hx hb dX5_hasRightSlash_17 ?_
    refine lv_topi (fun x_4 ex_4 => ?_)
    have b_x_1 := ti_b x_1
    have tx_4 := ti_sub ex_4
    have hPc := hP.sub (ws' := [(f, .inr (2, [.ref f_kinds, .ref f_signs, .ref f_sizes, .ref f_places, .ref f_limits, .ref f_starts, .ref f_sorts, .int f_count, .int f_sections, .int f_fifth])), (f_kinds, .inl (cI, 255, .inl f_kindsF)), (f_starts, .inl (cI, 4, .inl f_startsF))]) [0, 1, 2] rfl
    refine va_calli (va_runV (As := [.int p1, .int x_4]) (rest := []) ⟨hx, hb, hml, hown, hts⟩ (c_X2_kindIn l D cI cD cJ H.size f f_kinds f_signs f_sizes f_places f_limits f_starts f_sorts f_count f_sections f_fifth f_kindsF f_startsF p1 x_4 (by omega) (by omega) (by omega) (by assumption)) (cwV 2 hts (goodIn_app (goodIn_r _ [5, 6, 7, 4] rfl (by decide +kernel)) (goodIn_sub i_X2_kindIn k_X2_kindIn)) rfl rfl rfl (by decide +kernel) ⟨Nat.le_of_ble_eq_true rfl, Nat.le_of_ble_eq_true rfl⟩) ⟨fun a U g mk q => by obtain ⟨q0, qP, qK⟩ := q; exact ⟨q0, qP, va_K.moved (u := U) (U := U.calling g mk a) (Vm.Alike.refl U.vm) qK⟩, va_recv hK hPc (ci := 2) (q0 := 0) rfl rfl, fun U hU hW => ⟨rfl, by rw [hU]; exact hPc, va_K.moved hW.alike hK⟩⟩ rfl rfl hl.1 rfl (lv_room (Nat.le_of_ble_eq_true rfl)) dX5_hasRightSlash_18 ⟨Nat.le_of_ble_eq_true rfl, Nat.le_of_ble_eq_true rfl⟩) hS (fun q _ h => h.elim) (fun q h => h.elim) (fun x_5 u t H1 locs ht hvm w_6 hB hz1 hk1 hS => ?_)
    have hP : va_P D vwCl [(f, .inr (2, [.ref f_kinds, .ref f_signs, .ref f_sizes, .ref f_places, .ref f_limits, .ref f_starts, .ref f_sorts, .int f_count, .int f_sections, .int f_fifth])), (f_kinds, .inl (cI, 255, .inl f_kindsF)), (f_starts, .inl (cI, 4, .inl f_startsF))] H1 := hP.kept (fun k9 q9 h9 => hk1 q9.1 (vx_lt hP h9) (fun h => h))
    generalize H1 = H at hP hS ⊢
    have b_x_5 := ti_b x_5
    refine lv_iconst (v := 4) hx hb dX5_hasRightSlash_21 (by decide) ?_
    refine lv_icmp_eq (tgt := 27) hx hb dX5_hasRightSlash_22 (by decide) (fun c_7 => ?_) (fun c_7 => ?_)
    · have ic_7 : (x_5 : Int32).toInt = (4 : Int32).toInt := (fa_eq x_5 4).mp c_7
      refine lv_aload_n hx hb dX5_hasRightSlash_27 rfl (lv_at hl 1 rfl) ?_
      refine lv_iload_n hx hb dX5_hasRightSlash_28 rfl (lv_at hl 2 rfl) ?_
      refine lv_iload_n hx hb dX5_hasRightSlash_29 rfl (lv_at hl 0 rfl) ?_
      refine lv_iconst (v := 1) hx hb dX5_hasRightSlash_30 (by decide) ?_
      refine lv_iadd hx hb dX5_hasRightSlash_31 ?_
      refine lv_topi (fun x_8 ex_8 => ?_)
      have b_x_1 := ti_b x_1
      have tx_8 := ti_add ex_8
      have hPc := hP.sub (ws' := [(f, .inr (2, [.ref f_kinds, .ref f_signs, .ref f_sizes, .ref f_places, .ref f_limits, .ref f_starts, .ref f_sorts, .int f_count, .int f_sections, .int f_fifth])), (f_kinds, .inl (cI, 255, .inl f_kindsF)), (f_starts, .inl (cI, 4, .inl f_startsF))]) [0, 1, 2] rfl
      refine va_calli (va_runV (As := [.int p1, .int x_8]) (rest := []) ⟨hx, hb, hml, hown, hts⟩ (c_X2_kindIn l D cI cD cJ H.size f f_kinds f_signs f_sizes f_places f_limits f_starts f_sorts f_count f_sections f_fifth f_kindsF f_startsF p1 x_8 (by omega) (by omega) (by omega) (by assumption)) (cwV 2 hts (goodIn_app (goodIn_r _ [5, 6, 7, 4] rfl (by decide +kernel)) (goodIn_sub i_X2_kindIn k_X2_kindIn)) rfl rfl rfl (by decide +kernel) ⟨Nat.le_of_ble_eq_true rfl, Nat.le_of_ble_eq_true rfl⟩) ⟨fun a U g mk q => by obtain ⟨q0, qP, qK⟩ := q; exact ⟨q0, qP, va_K.moved (u := U) (U := U.calling g mk a) (Vm.Alike.refl U.vm) qK⟩, va_recv hK hPc (ci := 2) (q0 := 0) rfl rfl, fun U hU hW => ⟨rfl, by rw [hU]; exact hPc, va_K.moved hW.alike hK⟩⟩ rfl rfl hl.1 rfl (lv_room (Nat.le_of_ble_eq_true rfl)) dX5_hasRightSlash_32 ⟨Nat.le_of_ble_eq_true rfl, Nat.le_of_ble_eq_true rfl⟩) hS (fun q _ h => h.elim) (fun q h => h.elim) (fun x_9 u t H1 locs ht hvm w_10 hB hz1 hk1 hS => ?_)
      have hP : va_P D vwCl [(f, .inr (2, [.ref f_kinds, .ref f_signs, .ref f_sizes, .ref f_places, .ref f_limits, .ref f_starts, .ref f_sorts, .int f_count, .int f_sections, .int f_fifth])), (f_kinds, .inl (cI, 255, .inl f_kindsF)), (f_starts, .inl (cI, 4, .inl f_startsF))] H1 := hP.kept (fun k9 q9 h9 => hk1 q9.1 (vx_lt hP h9) (fun h => h))
      generalize H1 = H at hP hS ⊢
      have b_x_9 := ti_b x_9
      refine lv_istore_n (lv' := [(3, .int x_9), (2, .int x_1), (0, .ref f), (1, .int p1)]) hx hb dX5_hasRightSlash_35 rfl hl (by decide) rfl (fun ls hl => ?_)
      refine lv_iload_n hx hb dX5_hasRightSlash_36 rfl (lv_at hl 0 rfl) ?_
      refine lv_iconst (v := 4) hx hb dX5_hasRightSlash_37 (by decide) ?_
      have K_47 : ∀ (H : Heap) (locs : List Loc) (ls : Array Slot), va_P D vwCl [(f, .inr (2, [.ref f_kinds, .ref f_signs, .ref f_sizes, .ref f_places, .ref f_limits, .ref f_starts, .ref f_sorts, .int f_count, .int f_sections, .int f_fifth])), (f_kinds, .inl (cI, 255, .inl f_kindsF)), (f_starts, .inl (cI, 4, .inl f_startsF))] H → va_S (fun _ => False) s.heap H locs → lv_has ls 4 [] → Z 0 0 H locs (F0 m 47 ls []) := by
        intro  H locs ls  hP hS hl
        refine hZ2 ?_
        refine lv_iconst (v := 1) hx hb dX5_hasRightSlash_47 (by decide) ?_
        refine lv_goto (tgt := 52) hx hb dX5_hasRightSlash_48 (by decide) ?_
        exact W.zret (v := 1) hx hb hr rfl (fun t ht hW => ⟨⟨1, (), rfl, (by (try dsimp only); first | omega | assumption), trivial⟩, hS.F ht⟩) hS.2.2 dX5_hasRightSlash_52
      refine lv_icmp_eq (tgt := 47) hx hb dX5_hasRightSlash_38 (by decide) (fun c_11 => ?_) (fun c_11 => ?_)
      · have ic_11 : (x_9 : Int32).toInt = (4 : Int32).toInt := (fa_eq x_9 4).mp c_11
        exact hZ1 (K_47  _ _ _ hP hS (lv_sub hl [] rfl))
      · have ic_11 : ¬ ((x_9 : Int32).toInt = (4 : Int32).toInt) := fun h9 => c_11 ((fa_eq x_9 4).mpr h9)
        refine lv_iload_n hx hb dX5_hasRightSlash_41 rfl (lv_at hl 0 rfl) ?_
        refine lv_bipush (v := 14) hx hb dX5_hasRightSlash_42 (by decide) ?_
        refine lv_icmp_ne (tgt := 51) hx hb dX5_hasRightSlash_44 (by decide) (fun c_12 => ?_) (fun c_12 => ?_)
        · have ic_12 : ¬ ((x_9 : Int32).toInt = (14 : Int32).toInt) := fun h9 => c_12 ((fa_eq x_9 14).mpr h9)
          refine lv_iconst (v := 0) hx hb dX5_hasRightSlash_51 (by decide) ?_
          exact W.zret (v := 0) hx hb hr rfl (fun t ht hW => ⟨⟨0, (), rfl, (by (try dsimp only); first | omega | assumption), trivial⟩, hS.F ht⟩) hS.2.2 dX5_hasRightSlash_52
        · have ic_12 : (x_9 : Int32).toInt = (14 : Int32).toInt := (fa_eq x_9 14).mp c_12
          exact hZ1 (K_47  _ _ _ hP hS (lv_sub hl [] rfl))
    · have ic_7 : ¬ ((x_5 : Int32).toInt = (4 : Int32).toInt) := fun h9 => c_7 ((fa_eq x_5 4).mpr h9)
      refine lv_iconst (v := 0) hx hb dX5_hasRightSlash_25 (by decide) ?_
      exact W.zret (v := 0) hx hb hr rfl (fun t ht hW => ⟨⟨0, (), rfl, (by (try dsimp only); first | omega | assumption), trivial⟩, hS.F ht⟩) hS.2.2 dX5_hasRightSlash_26

def ow_X5_sortOf : List Cond := [Cond.methodLink RX5 45 yX2_findIn, Cond.instanceMethod yX2_findIn, Cond.selects RX2 yX2_findIn yX2_findIn, Cond.initialized RX2, Cond.methodLink RX5 49 yX5_hasRightSlash, Cond.static yX5_hasRightSlash, Cond.initialized RX5]
def pw_X5_sortOf : List Cond := Cond.code yX5_sortOf cX5_sortOf 2 (some .int) :: (ow_X5_sortOf ++ (pw_X2_findIn ++ (pw_X5_hasRightSlash)))
set_option maxRecDepth 20000 in
theorem mo_X5_sortOf : ∀ w ∈ ow_X5_sortOf, w ∈ lw_tbl := by decide +kernel
set_option maxRecDepth 20000 in
theorem mc_X5_sortOf : Cond.code yX5_sortOf cX5_sortOf 2 (some .int) ∈ lw_tbl := by decide +kernel
theorem m_X5_sortOf : ∀ w ∈ pw_X5_sortOf, w ∈ lw_tbl := List.forall_mem_cons.mpr ⟨mc_X5_sortOf, (List.forall_mem_append.mpr ⟨mo_X5_sortOf, (List.forall_mem_append.mpr ⟨m_X2_findIn, m_X5_hasRightSlash⟩)⟩)⟩
theorem ko_X5_sortOf : ∀ w ∈ ow_X5_sortOf, goodWord w = true := by decide +kernel
theorem k_X5_sortOf : pw_X5_sortOf.all goodWord = true := List.all_eq_true.mpr (List.forall_mem_cons.mpr ⟨by decide +kernel, (List.forall_mem_append.mpr ⟨ko_X5_sortOf, (List.forall_mem_append.mpr ⟨(List.all_eq_true.mp k_X2_findIn), (List.all_eq_true.mp k_X5_hasRightSlash)⟩)⟩)⟩)
set_option maxHeartbeats 400000 in
set_option maxRecDepth 100000 in
theorem c_X5_sortOf (l : Launch) (D : va_G) (cI cD cJ : ClassId) (sz : Nat) (f : Nat) (f_kinds : Nat) (f_signs : Nat) (f_sizes : Nat) (f_places : Nat) (f_limits : Nat) (f_starts : Nat) (f_sorts : Nat) (f_count : Int32) (f_sections : Int32) (f_fifth : Int32) (f_kindsF : Nat → Int32) (f_startsF : Nat → Int32) (p1 : Int32) (hs9 : p1.toInt ≤ 4) (iv_f_count : 0 ≤ (f_count : Int32).toInt ∧ (f_count : Int32).toInt ≤ 255) (iv_f_sections : 0 ≤ (f_sections : Int32).toInt ∧ (f_sections : Int32).toInt ≤ 4) (iv_f_startsF : ∀ k9 : Nat, k9 < 4 → 0 ≤ (f_startsF k9).toInt ∧ (f_startsF k9).toInt ≤ 255) : Met l yX5_sortOf pw_X5_sortOf ({ frames := 4, cells := 0, slots := 0, locals := 90 }) (va_Pc [.ref f, .int p1] (fun U => va_P D vwCl [(f, .inr (2, [.ref f_kinds, .ref f_signs, .ref f_sizes, .ref f_places, .ref f_limits, .ref f_starts, .ref f_sorts, .int f_count, .int f_sections, .int f_fifth])), (f_kinds, .inl (cI, 255, .inl f_kindsF)), (f_starts, .inl (cI, 4, .inl f_startsF))] U.heap ∧ va_K D vwCl (ty3 cI cD cJ) U)) (va_Qi (fun (r : Int32) (u : Unit) => True) (fun _ _ => True) (fun _ => False)) 0 0 (fun _ => False) := by
  refine Met.ofW (cc := cX5_sortOf) (maxL := 2) (ret := (some .int)) (by decide +kernel) rfl ?_
  intro p e s m args below meth c s₁ B hml hv
  obtain ⟨rfl, hP, hK⟩ := hv
  have hx := B.exec
  have hb := B.bytes
  have hr := B.returns
  have hts := atoms_spec (ws := pw_X5_sortOf) B.pre
  have hown : s.vm.findClass RX5 = some m.cls := findClass_of_methodNamed B.named
  have hlocks := B.notSynchronized
  have hS : va_S (fun _ => False) s.heap s.heap [] := va_S.rf
  have hw : ∀ (k : Nat) (w : Cond), ow_X5_sortOf[k]? = some w → w.before _ s = true := fun k w h => hts w (List.mem_cons_of_mem _ (have h9 := List.mem_of_getElem? h; List.mem_append_left _ h9))
  have i_X2_findIn : ∀ w ∈ pw_X2_findIn, w ∈ pw_X5_sortOf := fun w h9 => List.mem_cons_of_mem _ (List.mem_append_right _ (List.mem_append_left _ h9))
  have i_X5_hasRightSlash : ∀ w ∈ pw_X5_hasRightSlash, w ∈ pw_X5_sortOf := fun w h9 => List.mem_cons_of_mem _ (List.mem_append_right _ (List.mem_append_right _ (h9)))
  have n_m1 : (((-1) : Int32)).toInt = (-1) := by decide
  have n_0 : ((0 : Int32)).toInt = 0 := by decide
  have n_1 : ((1 : Int32)).toInt = 1 := by decide
  have n_11 : ((11 : Int32)).toInt = 11 := by decide
  have n_12 : ((12 : Int32)).toInt = 12 := by decide
  have n_13 : ((13 : Int32)).toInt = 13 := by decide
  have n_2 : ((2 : Int32)).toInt = 2 := by decide
  have n_3 : ((3 : Int32)).toInt = 3 := by decide
  have n_4 : ((4 : Int32)).toInt = 4 := by decide
  have n_5 : ((5 : Int32)).toInt = 5 := by decide
  have n_9 : ((9 : Int32)).toInt = 9 := by decide
  have hl := lv_entry ([.ref f, .int p1]) (n := 2) (Nat.le_of_ble_eq_true rfl)
  rw [lg_entry_eq]
  generalize (lg_sl ([.ref f, .int p1]) ++ List.replicate (2 - (lg_sl ([.ref f, .int p1])).length) Slot.unset).toArray = ls at hl ⊢
  have hl : lv_has ls 2 [(0, .ref f), (1, .int p1)] := hl
  have b_p1 := ti_b p1
  refine lv_aload_n hx hb dX5_sortOf_0 rfl (lv_at hl 0 rfl) ?_
  refine lv_iload_n hx hb dX5_sortOf_1 rfl (lv_at hl 1 rfl) ?_
  refine lv_bipush (v := 13) hx hb dX5_sortOf_2 (by decide) ?_
  have hPc := hP.sub (ws' := [(f, .inr (2, [.ref f_kinds, .ref f_signs, .ref f_sizes, .ref f_places, .ref f_limits, .ref f_starts, .ref f_sorts, .int f_count, .int f_sections, .int f_fifth])), (f_kinds, .inl (cI, 255, .inl f_kindsF)), (f_starts, .inl (cI, 4, .inl f_startsF))]) [0, 1, 2] rfl
  refine va_calli (va_runV (As := [.int p1, .int 13]) (rest := []) ⟨hx, hb, hml, hown, hts⟩ (c_X2_findIn l D cI cD cJ s.heap.size f f_kinds f_signs f_sizes f_places f_limits f_starts f_sorts f_count f_sections f_fifth f_kindsF f_startsF p1 13 (by omega) (by omega) (by omega) (by assumption)) (cwV 2 hts (goodIn_app (goodIn_r _ [1, 2, 3, 4] rfl (by decide +kernel)) (goodIn_sub i_X2_findIn k_X2_findIn)) rfl rfl rfl (by decide +kernel) ⟨Nat.le_of_ble_eq_true rfl, Nat.le_of_ble_eq_true rfl⟩) ⟨fun a U g mk q => by obtain ⟨q0, qP, qK⟩ := q; exact ⟨q0, qP, va_K.moved (u := U) (U := U.calling g mk a) (Vm.Alike.refl U.vm) qK⟩, va_recv hK hPc (ci := 2) (q0 := 0) rfl rfl, fun U hU hW => ⟨rfl, by rw [hU]; exact hPc, va_K.moved hW.alike hK⟩⟩ rfl rfl hl.1 rfl (lv_room (Nat.le_of_ble_eq_true rfl)) dX5_sortOf_4 ⟨Nat.le_of_ble_eq_true rfl, Nat.le_of_ble_eq_true rfl⟩) hS (fun q _ h => h.elim) (fun q h => h.elim) (fun x_1 u t H1 locs ht hvm w_2 hB hz1 hk1 hS => ?_)
  have hP : va_P D vwCl [(f, .inr (2, [.ref f_kinds, .ref f_signs, .ref f_sizes, .ref f_places, .ref f_limits, .ref f_starts, .ref f_sorts, .int f_count, .int f_sections, .int f_fifth])), (f_kinds, .inl (cI, 255, .inl f_kindsF)), (f_starts, .inl (cI, 4, .inl f_startsF))] H1 := hP.kept (fun k9 q9 h9 => hk1 q9.1 (vx_lt hP h9) (fun h => h))
  generalize H1 = H at hP hS ⊢
  try dsimp only at w_2
  refine lv_iconst (v := (-1)) hx hb dX5_sortOf_7 (by decide) ?_
  refine lv_icmp_ne (tgt := 32) hx hb dX5_sortOf_8 (by decide) (fun c_3 => ?_) (fun c_3 => ?_)
  · have ic_3 : ¬ ((x_1 : Int32).toInt = ((-1) : Int32).toInt) := fun h9 => c_3 ((fa_eq x_1 (-1)).mpr h9)
    refine lv_iconst (v := 1) hx hb dX5_sortOf_32 (by decide) ?_
    exact W.iret (v := 1) hx hb hr (fun t ht hW => ⟨⟨1, (), rfl, trivial, trivial⟩, hS.F ht⟩) hS.2.2 dX5_sortOf_33
  · have ic_3 : (x_1 : Int32).toInt = ((-1) : Int32).toInt := (fa_eq x_1 (-1)).mp c_3
    refine lv_aload_n hx hb dX5_sortOf_11 rfl (lv_at hl 0 rfl) ?_
    refine lv_iload_n hx hb dX5_sortOf_12 rfl (lv_at hl 1 rfl) ?_
    refine lv_iconst (v := 3) hx hb dX5_sortOf_13 (by decide) ?_
    have hPc := hP.sub (ws' := [(f, .inr (2, [.ref f_kinds, .ref f_signs, .ref f_sizes, .ref f_places, .ref f_limits, .ref f_starts, .ref f_sorts, .int f_count, .int f_sections, .int f_fifth])), (f_kinds, .inl (cI, 255, .inl f_kindsF)), (f_starts, .inl (cI, 4, .inl f_startsF))]) [0, 1, 2] rfl
    refine va_calli (va_runV (As := [.int p1, .int 3]) (rest := []) ⟨hx, hb, hml, hown, hts⟩ (c_X2_findIn l D cI cD cJ H.size f f_kinds f_signs f_sizes f_places f_limits f_starts f_sorts f_count f_sections f_fifth f_kindsF f_startsF p1 3 (by omega) (by omega) (by omega) (by assumption)) (cwV 2 hts (goodIn_app (goodIn_r _ [1, 2, 3, 4] rfl (by decide +kernel)) (goodIn_sub i_X2_findIn k_X2_findIn)) rfl rfl rfl (by decide +kernel) ⟨Nat.le_of_ble_eq_true rfl, Nat.le_of_ble_eq_true rfl⟩) ⟨fun a U g mk q => by obtain ⟨q0, qP, qK⟩ := q; exact ⟨q0, qP, va_K.moved (u := U) (U := U.calling g mk a) (Vm.Alike.refl U.vm) qK⟩, va_recv hK hPc (ci := 2) (q0 := 0) rfl rfl, fun U hU hW => ⟨rfl, by rw [hU]; exact hPc, va_K.moved hW.alike hK⟩⟩ rfl rfl hl.1 rfl (lv_room (Nat.le_of_ble_eq_true rfl)) dX5_sortOf_14 ⟨Nat.le_of_ble_eq_true rfl, Nat.le_of_ble_eq_true rfl⟩) hS (fun q _ h => h.elim) (fun q h => h.elim) (fun x_4 u t H1 locs ht hvm w_5 hB hz1 hk1 hS => ?_)
    have hP : va_P D vwCl [(f, .inr (2, [.ref f_kinds, .ref f_signs, .ref f_sizes, .ref f_places, .ref f_limits, .ref f_starts, .ref f_sorts, .int f_count, .int f_sections, .int f_fifth])), (f_kinds, .inl (cI, 255, .inl f_kindsF)), (f_starts, .inl (cI, 4, .inl f_startsF))] H1 := hP.kept (fun k9 q9 h9 => hk1 q9.1 (vx_lt hP h9) (fun h => h))
    generalize H1 = H at hP hS ⊢
    try dsimp only at w_5
    refine lv_iconst (v := (-1)) hx hb dX5_sortOf_17 (by decide) ?_
    refine lv_icmp_ne (tgt := 32) hx hb dX5_sortOf_18 (by decide) (fun c_6 => ?_) (fun c_6 => ?_)
    · have ic_6 : ¬ ((x_4 : Int32).toInt = ((-1) : Int32).toInt) := fun h9 => c_6 ((fa_eq x_4 (-1)).mpr h9)
      refine lv_iconst (v := 1) hx hb dX5_sortOf_32 (by decide) ?_
      exact W.iret (v := 1) hx hb hr (fun t ht hW => ⟨⟨1, (), rfl, trivial, trivial⟩, hS.F ht⟩) hS.2.2 dX5_sortOf_33
    · have ic_6 : (x_4 : Int32).toInt = ((-1) : Int32).toInt := (fa_eq x_4 (-1)).mp c_6
      refine lv_aload_n hx hb dX5_sortOf_21 rfl (lv_at hl 0 rfl) ?_
      refine lv_iload_n hx hb dX5_sortOf_22 rfl (lv_at hl 1 rfl) ?_
      refine lv_bipush (v := 12) hx hb dX5_sortOf_23 (by decide) ?_
      have hPc := hP.sub (ws' := [(f, .inr (2, [.ref f_kinds, .ref f_signs, .ref f_sizes, .ref f_places, .ref f_limits, .ref f_starts, .ref f_sorts, .int f_count, .int f_sections, .int f_fifth])), (f_kinds, .inl (cI, 255, .inl f_kindsF)), (f_starts, .inl (cI, 4, .inl f_startsF))]) [0, 1, 2] rfl
      refine va_calli (va_runV (As := [.int p1, .int 12]) (rest := []) ⟨hx, hb, hml, hown, hts⟩ (c_X2_findIn l D cI cD cJ H.size f f_kinds f_signs f_sizes f_places f_limits f_starts f_sorts f_count f_sections f_fifth f_kindsF f_startsF p1 12 (by omega) (by omega) (by omega) (by assumption)) (cwV 2 hts (goodIn_app (goodIn_r _ [1, 2, 3, 4] rfl (by decide +kernel)) (goodIn_sub i_X2_findIn k_X2_findIn)) rfl rfl rfl (by decide +kernel) ⟨Nat.le_of_ble_eq_true rfl, Nat.le_of_ble_eq_true rfl⟩) ⟨fun a U g mk q => by obtain ⟨q0, qP, qK⟩ := q; exact ⟨q0, qP, va_K.moved (u := U) (U := U.calling g mk a) (Vm.Alike.refl U.vm) qK⟩, va_recv hK hPc (ci := 2) (q0 := 0) rfl rfl, fun U hU hW => ⟨rfl, by rw [hU]; exact hPc, va_K.moved hW.alike hK⟩⟩ rfl rfl hl.1 rfl (lv_room (Nat.le_of_ble_eq_true rfl)) dX5_sortOf_25 ⟨Nat.le_of_ble_eq_true rfl, Nat.le_of_ble_eq_true rfl⟩) hS (fun q _ h => h.elim) (fun q h => h.elim) (fun x_7 u t H1 locs ht hvm w_8 hB hz1 hk1 hS => ?_)
      have hP : va_P D vwCl [(f, .inr (2, [.ref f_kinds, .ref f_signs, .ref f_sizes, .ref f_places, .ref f_limits, .ref f_starts, .ref f_sorts, .int f_count, .int f_sections, .int f_fifth])), (f_kinds, .inl (cI, 255, .inl f_kindsF)), (f_starts, .inl (cI, 4, .inl f_startsF))] H1 := hP.kept (fun k9 q9 h9 => hk1 q9.1 (vx_lt hP h9) (fun h => h))
      generalize H1 = H at hP hS ⊢
      try dsimp only at w_8
      refine lv_iconst (v := (-1)) hx hb dX5_sortOf_28 (by decide) ?_
      refine lv_icmp_eq (tgt := 34) hx hb dX5_sortOf_29 (by decide) (fun c_9 => ?_) (fun c_9 => ?_)
      · have ic_9 : (x_7 : Int32).toInt = ((-1) : Int32).toInt := (fa_eq x_7 (-1)).mp c_9
        refine lv_aload_n hx hb dX5_sortOf_34 rfl (lv_at hl 0 rfl) ?_
        refine lv_iload_n hx hb dX5_sortOf_35 rfl (lv_at hl 1 rfl) ?_
        refine lv_bipush (v := 9) hx hb dX5_sortOf_36 (by decide) ?_
        have hPc := hP.sub (ws' := [(f, .inr (2, [.ref f_kinds, .ref f_signs, .ref f_sizes, .ref f_places, .ref f_limits, .ref f_starts, .ref f_sorts, .int f_count, .int f_sections, .int f_fifth])), (f_kinds, .inl (cI, 255, .inl f_kindsF)), (f_starts, .inl (cI, 4, .inl f_startsF))]) [0, 1, 2] rfl
        refine va_calli (va_runV (As := [.int p1, .int 9]) (rest := []) ⟨hx, hb, hml, hown, hts⟩ (c_X2_findIn l D cI cD cJ H.size f f_kinds f_signs f_sizes f_places f_limits f_starts f_sorts f_count f_sections f_fifth f_kindsF f_startsF p1 9 (by omega) (by omega) (by omega) (by assumption)) (cwV 2 hts (goodIn_app (goodIn_r _ [1, 2, 3, 4] rfl (by decide +kernel)) (goodIn_sub i_X2_findIn k_X2_findIn)) rfl rfl rfl (by decide +kernel) ⟨Nat.le_of_ble_eq_true rfl, Nat.le_of_ble_eq_true rfl⟩) ⟨fun a U g mk q => by obtain ⟨q0, qP, qK⟩ := q; exact ⟨q0, qP, va_K.moved (u := U) (U := U.calling g mk a) (Vm.Alike.refl U.vm) qK⟩, va_recv hK hPc (ci := 2) (q0 := 0) rfl rfl, fun U hU hW => ⟨rfl, by rw [hU]; exact hPc, va_K.moved hW.alike hK⟩⟩ rfl rfl hl.1 rfl (lv_room (Nat.le_of_ble_eq_true rfl)) dX5_sortOf_38 ⟨Nat.le_of_ble_eq_true rfl, Nat.le_of_ble_eq_true rfl⟩) hS (fun q _ h => h.elim) (fun q h => h.elim) (fun x_10 u t H1 locs ht hvm w_11 hB hz1 hk1 hS => ?_)
        have hP : va_P D vwCl [(f, .inr (2, [.ref f_kinds, .ref f_signs, .ref f_sizes, .ref f_places, .ref f_limits, .ref f_starts, .ref f_sorts, .int f_count, .int f_sections, .int f_fifth])), (f_kinds, .inl (cI, 255, .inl f_kindsF)), (f_starts, .inl (cI, 4, .inl f_startsF))] H1 := hP.kept (fun k9 q9 h9 => hk1 q9.1 (vx_lt hP h9) (fun h => h))
        generalize H1 = H at hP hS ⊢
        try dsimp only at w_11
        refine lv_iconst (v := (-1)) hx hb dX5_sortOf_41 (by decide) ?_
        refine lv_icmp_eq (tgt := 47) hx hb dX5_sortOf_42 (by decide) (fun c_12 => ?_) (fun c_12 => ?_)
        · have ic_12 : (x_10 : Int32).toInt = ((-1) : Int32).toInt := (fa_eq x_10 (-1)).mp c_12
          refine lv_aload_n hx hb dX5_sortOf_47 rfl (lv_at hl 0 rfl) ?_
          refine lv_iload_n hx hb dX5_sortOf_48 rfl (lv_at hl 1 rfl) ?_
          refine lv_bipush (v := 11) hx hb dX5_sortOf_49 (by decide) ?_
          have hPc := hP.sub (ws' := [(f, .inr (2, [.ref f_kinds, .ref f_signs, .ref f_sizes, .ref f_places, .ref f_limits, .ref f_starts, .ref f_sorts, .int f_count, .int f_sections, .int f_fifth])), (f_kinds, .inl (cI, 255, .inl f_kindsF)), (f_starts, .inl (cI, 4, .inl f_startsF))]) [0, 1, 2] rfl
          refine va_calli (va_runV (As := [.int p1, .int 11]) (rest := []) ⟨hx, hb, hml, hown, hts⟩ (c_X2_findIn l D cI cD cJ H.size f f_kinds f_signs f_sizes f_places f_limits f_starts f_sorts f_count f_sections f_fifth f_kindsF f_startsF p1 11 (by omega) (by omega) (by omega) (by assumption)) (cwV 2 hts (goodIn_app (goodIn_r _ [1, 2, 3, 4] rfl (by decide +kernel)) (goodIn_sub i_X2_findIn k_X2_findIn)) rfl rfl rfl (by decide +kernel) ⟨Nat.le_of_ble_eq_true rfl, Nat.le_of_ble_eq_true rfl⟩) ⟨fun a U g mk q => by obtain ⟨q0, qP, qK⟩ := q; exact ⟨q0, qP, va_K.moved (u := U) (U := U.calling g mk a) (Vm.Alike.refl U.vm) qK⟩, va_recv hK hPc (ci := 2) (q0 := 0) rfl rfl, fun U hU hW => ⟨rfl, by rw [hU]; exact hPc, va_K.moved hW.alike hK⟩⟩ rfl rfl hl.1 rfl (lv_room (Nat.le_of_ble_eq_true rfl)) dX5_sortOf_51 ⟨Nat.le_of_ble_eq_true rfl, Nat.le_of_ble_eq_true rfl⟩) hS (fun q _ h => h.elim) (fun q h => h.elim) (fun x_13 u t H1 locs ht hvm w_14 hB hz1 hk1 hS => ?_)
          have hP : va_P D vwCl [(f, .inr (2, [.ref f_kinds, .ref f_signs, .ref f_sizes, .ref f_places, .ref f_limits, .ref f_starts, .ref f_sorts, .int f_count, .int f_sections, .int f_fifth])), (f_kinds, .inl (cI, 255, .inl f_kindsF)), (f_starts, .inl (cI, 4, .inl f_startsF))] H1 := hP.kept (fun k9 q9 h9 => hk1 q9.1 (vx_lt hP h9) (fun h => h))
          generalize H1 = H at hP hS ⊢
          try dsimp only at w_14
          refine lv_iconst (v := (-1)) hx hb dX5_sortOf_54 (by decide) ?_
          refine lv_icmp_eq (tgt := 60) hx hb dX5_sortOf_55 (by decide) (fun c_15 => ?_) (fun c_15 => ?_)
          · have ic_15 : (x_13 : Int32).toInt = ((-1) : Int32).toInt := (fa_eq x_13 (-1)).mp c_15
            refine lv_aload_n hx hb dX5_sortOf_60 rfl (lv_at hl 0 rfl) ?_
            refine lv_iload_n hx hb dX5_sortOf_61 rfl (lv_at hl 1 rfl) ?_
            refine lv_iconst (v := 4) hx hb dX5_sortOf_62 (by decide) ?_
            have hPc := hP.sub (ws' := [(f, .inr (2, [.ref f_kinds, .ref f_signs, .ref f_sizes, .ref f_places, .ref f_limits, .ref f_starts, .ref f_sorts, .int f_count, .int f_sections, .int f_fifth])), (f_kinds, .inl (cI, 255, .inl f_kindsF)), (f_starts, .inl (cI, 4, .inl f_startsF))]) [0, 1, 2] rfl
            refine va_calli (va_runV (As := [.int p1, .int 4]) (rest := []) ⟨hx, hb, hml, hown, hts⟩ (c_X2_findIn l D cI cD cJ H.size f f_kinds f_signs f_sizes f_places f_limits f_starts f_sorts f_count f_sections f_fifth f_kindsF f_startsF p1 4 (by omega) (by omega) (by omega) (by assumption)) (cwV 2 hts (goodIn_app (goodIn_r _ [1, 2, 3, 4] rfl (by decide +kernel)) (goodIn_sub i_X2_findIn k_X2_findIn)) rfl rfl rfl (by decide +kernel) ⟨Nat.le_of_ble_eq_true rfl, Nat.le_of_ble_eq_true rfl⟩) ⟨fun a U g mk q => by obtain ⟨q0, qP, qK⟩ := q; exact ⟨q0, qP, va_K.moved (u := U) (U := U.calling g mk a) (Vm.Alike.refl U.vm) qK⟩, va_recv hK hPc (ci := 2) (q0 := 0) rfl rfl, fun U hU hW => ⟨rfl, by rw [hU]; exact hPc, va_K.moved hW.alike hK⟩⟩ rfl rfl hl.1 rfl (lv_room (Nat.le_of_ble_eq_true rfl)) dX5_sortOf_63 ⟨Nat.le_of_ble_eq_true rfl, Nat.le_of_ble_eq_true rfl⟩) hS (fun q _ h => h.elim) (fun q h => h.elim) (fun x_16 u t H1 locs ht hvm w_17 hB hz1 hk1 hS => ?_)
            have hP : va_P D vwCl [(f, .inr (2, [.ref f_kinds, .ref f_signs, .ref f_sizes, .ref f_places, .ref f_limits, .ref f_starts, .ref f_sorts, .int f_count, .int f_sections, .int f_fifth])), (f_kinds, .inl (cI, 255, .inl f_kindsF)), (f_starts, .inl (cI, 4, .inl f_startsF))] H1 := hP.kept (fun k9 q9 h9 => hk1 q9.1 (vx_lt hP h9) (fun h => h))
            generalize H1 = H at hP hS ⊢
            try dsimp only at w_17
            refine lv_iconst (v := (-1)) hx hb dX5_sortOf_66 (by decide) ?_
            refine lv_icmp_ne (tgt := 72) hx hb dX5_sortOf_67 (by decide) (fun c_18 => ?_) (fun c_18 => ?_)
            · have ic_18 : ¬ ((x_16 : Int32).toInt = ((-1) : Int32).toInt) := fun h9 => c_18 ((fa_eq x_16 (-1)).mpr h9)
              refine lv_aload_n hx hb dX5_sortOf_72 rfl (lv_at hl 0 rfl) ?_
              refine lv_iload_n hx hb dX5_sortOf_73 rfl (lv_at hl 1 rfl) ?_
              have hPc := hP.sub (ws' := [(f, .inr (2, [.ref f_kinds, .ref f_signs, .ref f_sizes, .ref f_places, .ref f_limits, .ref f_starts, .ref f_sorts, .int f_count, .int f_sections, .int f_fifth])), (f_kinds, .inl (cI, 255, .inl f_kindsF)), (f_starts, .inl (cI, 4, .inl f_startsF))]) [0, 1, 2] rfl
              refine va_calli (va_runS (As := [.ref f, .int p1]) (rest := []) ⟨hx, hb, hml, hown, hts⟩ (c_X5_hasRightSlash l D cI cD cJ H.size f f_kinds f_signs f_sizes f_places f_limits f_starts f_sorts f_count f_sections f_fifth f_kindsF f_startsF p1 (by omega) (by omega) (by omega) (by assumption)) (va_cwS 2 hts (goodIn_app (goodIn_r _ [5, 6, 7] rfl (by decide +kernel)) (goodIn_sub i_X5_hasRightSlash k_X5_hasRightSlash)) rfl rfl rfl (by decide +kernel) ⟨Nat.le_of_ble_eq_true rfl, Nat.le_of_ble_eq_true rfl⟩) ⟨fun a U g mk q => by obtain ⟨q0, qP, qK⟩ := q; exact ⟨q0, qP, va_K.moved (u := U) (U := U.calling g mk a) (Vm.Alike.refl U.vm) qK⟩, fun U hU hW => ⟨rfl, by rw [hU]; exact hPc, va_K.moved hW.alike hK⟩⟩ rfl rfl hl.1 rfl (lv_room (Nat.le_of_ble_eq_true rfl)) dX5_sortOf_74 ⟨Nat.le_of_ble_eq_true rfl, Nat.le_of_ble_eq_true rfl⟩) hS (fun q _ h => h.elim) (fun q h => h.elim) (fun x_19 u t H1 locs ht hvm w_20 hB hz1 hk1 hS => ?_)
              have hP : va_P D vwCl [(f, .inr (2, [.ref f_kinds, .ref f_signs, .ref f_sizes, .ref f_places, .ref f_limits, .ref f_starts, .ref f_sorts, .int f_count, .int f_sections, .int f_fifth])), (f_kinds, .inl (cI, 255, .inl f_kindsF)), (f_starts, .inl (cI, 4, .inl f_startsF))] H1 := hP.kept (fun k9 q9 h9 => hk1 q9.1 (vx_lt hP h9) (fun h => h))
              generalize H1 = H at hP hS ⊢
              try dsimp only at w_20
              have b_x_19 := ti_b x_19
              refine lv_if_eq (tgt := 84) hx hb dX5_sortOf_77 (by decide) (fun c_21 => ?_) (fun c_21 => ?_)
              · have ic_21 : (x_19 : Int32).toInt = (0 : Int32).toInt := (fa_eq x_19 0).mp c_21
                refine lv_iconst (v := 4) hx hb dX5_sortOf_84 (by decide) ?_
                exact W.iret (v := 4) hx hb hr (fun t ht hW => ⟨⟨4, (), rfl, trivial, trivial⟩, hS.F ht⟩) hS.2.2 dX5_sortOf_85
              · have ic_21 : ¬ ((x_19 : Int32).toInt = (0 : Int32).toInt) := fun h9 => c_21 ((fa_eq x_19 0).mpr h9)
                refine lv_iconst (v := 5) hx hb dX5_sortOf_80 (by decide) ?_
                refine lv_goto (tgt := 85) hx hb dX5_sortOf_81 (by decide) ?_
                exact W.iret (v := 5) hx hb hr (fun t ht hW => ⟨⟨5, (), rfl, trivial, trivial⟩, hS.F ht⟩) hS.2.2 dX5_sortOf_85
            · have ic_18 : (x_16 : Int32).toInt = ((-1) : Int32).toInt := (fa_eq x_16 (-1)).mp c_18
              refine lv_iconst (v := 0) hx hb dX5_sortOf_70 (by decide) ?_
              exact W.iret (v := 0) hx hb hr (fun t ht hW => ⟨⟨0, (), rfl, trivial, trivial⟩, hS.F ht⟩) hS.2.2 dX5_sortOf_71
          · have ic_15 : ¬ ((x_13 : Int32).toInt = ((-1) : Int32).toInt) := fun h9 => c_15 ((fa_eq x_13 (-1)).mpr h9)
            refine lv_iconst (v := 3) hx hb dX5_sortOf_58 (by decide) ?_
            exact W.iret (v := 3) hx hb hr (fun t ht hW => ⟨⟨3, (), rfl, trivial, trivial⟩, hS.F ht⟩) hS.2.2 dX5_sortOf_59
        · have ic_12 : ¬ ((x_10 : Int32).toInt = ((-1) : Int32).toInt) := fun h9 => c_12 ((fa_eq x_10 (-1)).mpr h9)
          refine lv_iconst (v := 2) hx hb dX5_sortOf_45 (by decide) ?_
          exact W.iret (v := 2) hx hb hr (fun t ht hW => ⟨⟨2, (), rfl, trivial, trivial⟩, hS.F ht⟩) hS.2.2 dX5_sortOf_46
      · have ic_9 : ¬ ((x_7 : Int32).toInt = ((-1) : Int32).toInt) := fun h9 => c_9 ((fa_eq x_7 (-1)).mpr h9)
        refine lv_iconst (v := 1) hx hb dX5_sortOf_32 (by decide) ?_
        exact W.iret (v := 1) hx hb hr (fun t ht hW => ⟨⟨1, (), rfl, trivial, trivial⟩, hS.F ht⟩) hS.2.2 dX5_sortOf_33

def ow_X5_markMinutes : List Cond := [Cond.methodLink RX5 56 yX2_from, Cond.instanceMethod yX2_from, Cond.selects RX2 yX2_from yX2_from, Cond.initialized RX2, Cond.methodLink RX5 59 yX2_to, Cond.instanceMethod yX2_to, Cond.selects RX2 yX2_to yX2_to, Cond.methodLink RX5 62 yX2_kind, Cond.instanceMethod yX2_kind, Cond.selects RX2 yX2_kind yX2_kind, Cond.methodLink RX5 65 yX2_sign, Cond.instanceMethod yX2_sign, Cond.selects RX2 yX2_sign yX2_sign, Cond.methodLink RX5 68 yX2_setKind, Cond.instanceMethod yX2_setKind, Cond.selects RX2 yX2_setKind yX2_setKind, Cond.methodLink RX5 71 yX2_size, Cond.instanceMethod yX2_size, Cond.selects RX2 yX2_size yX2_size]
def pw_X5_markMinutes : List Cond := Cond.code yX5_markMinutes cX5_markMinutes 7 none :: (ow_X5_markMinutes ++ (pw_X2_from ++ (pw_X2_to ++ (pw_X2_kind ++ (pw_X2_sign ++ (pw_X2_setKind ++ (pw_X2_size)))))))
set_option maxRecDepth 20000 in
theorem mo_X5_markMinutes : ∀ w ∈ ow_X5_markMinutes, w ∈ lw_tbl := by decide +kernel
set_option maxRecDepth 20000 in
theorem mc_X5_markMinutes : Cond.code yX5_markMinutes cX5_markMinutes 7 none ∈ lw_tbl := by decide +kernel
theorem m_X5_markMinutes : ∀ w ∈ pw_X5_markMinutes, w ∈ lw_tbl := List.forall_mem_cons.mpr ⟨mc_X5_markMinutes, (List.forall_mem_append.mpr ⟨mo_X5_markMinutes, (List.forall_mem_append.mpr ⟨m_X2_from, (List.forall_mem_append.mpr ⟨m_X2_to, (List.forall_mem_append.mpr ⟨m_X2_kind, (List.forall_mem_append.mpr ⟨m_X2_sign, (List.forall_mem_append.mpr ⟨m_X2_setKind, m_X2_size⟩)⟩)⟩)⟩)⟩)⟩)⟩
theorem ko_X5_markMinutes : ∀ w ∈ ow_X5_markMinutes, goodWord w = true := by decide +kernel
theorem k_X5_markMinutes : pw_X5_markMinutes.all goodWord = true := List.all_eq_true.mpr (List.forall_mem_cons.mpr ⟨by decide +kernel, (List.forall_mem_append.mpr ⟨ko_X5_markMinutes, (List.forall_mem_append.mpr ⟨(List.all_eq_true.mp k_X2_from), (List.forall_mem_append.mpr ⟨(List.all_eq_true.mp k_X2_to), (List.forall_mem_append.mpr ⟨(List.all_eq_true.mp k_X2_kind), (List.forall_mem_append.mpr ⟨(List.all_eq_true.mp k_X2_sign), (List.forall_mem_append.mpr ⟨(List.all_eq_true.mp k_X2_setKind), (List.all_eq_true.mp k_X2_size)⟩)⟩)⟩)⟩)⟩)⟩)⟩)
set_option maxHeartbeats 400000 in
set_option maxRecDepth 100000 in
theorem c_X5_markMinutes (l : Launch) (D : va_G) (cI cD cJ : ClassId) (sz : Nat) (f : Nat) (f_kinds : Nat) (f_signs : Nat) (f_sizes : Nat) (f_places : Nat) (f_limits : Nat) (f_starts : Nat) (f_sorts : Nat) (f_count : Int32) (f_sections : Int32) (f_fifth : Int32) (f_kindsF : Nat → Int32) (f_signsF : Nat → Int32) (f_sizesF : Nat → Int32) (f_startsF : Nat → Int32) (p1 : Int32) (hs9 : p1.toInt ≤ 4) (iv_f_count : 0 ≤ (f_count : Int32).toInt ∧ (f_count : Int32).toInt ≤ 255) (iv_f_sections : 0 ≤ (f_sections : Int32).toInt ∧ (f_sections : Int32).toInt ≤ 4) (iv_f_sizesF : ∀ k9 : Nat, k9 < 255 → (f_sizesF k9).toInt ≤ 100000) (iv_f_startsF : ∀ k9 : Nat, k9 < 4 → 0 ≤ (f_startsF k9).toInt ∧ (f_startsF k9).toInt ≤ 255) : Met l yX5_markMinutes pw_X5_markMinutes ({ frames := 1, cells := 0, slots := 0, locals := 22 }) (va_Pc [.ref f, .int p1] (fun U => U.heap.size = sz ∧ va_P D vwCl [(f, .inr (2, [.ref f_kinds, .ref f_signs, .ref f_sizes, .ref f_places, .ref f_limits, .ref f_starts, .ref f_sorts, .int f_count, .int f_sections, .int f_fifth])), (f_kinds, .inl (cI, 255, .inl f_kindsF)), (f_signs, .inl (cI, 255, .inl f_signsF)), (f_sizes, .inl (cI, 255, .inl f_sizesF)), (f_starts, .inl (cI, 4, .inl f_startsF))] U.heap ∧ va_K D vwCl (ty3 cI cD cJ) U ∧ va_D (fun _ => True) [(f, .inr (2, [.ref f_kinds, .ref f_signs, .ref f_sizes, .ref f_places, .ref f_limits, .ref f_starts, .ref f_sorts, .int f_count, .int f_sections, .int f_fifth])), (f_kinds, .inl (cI, 255, .inl f_kindsF)), (f_signs, .inl (cI, 255, .inl f_signsF)), (f_sizes, .inl (cI, 255, .inl f_sizesF)), (f_starts, .inl (cI, 4, .inl f_startsF))])) (va_Qv (fun (f_kindsF2 : (Nat → Int32)) => True) (fun (f_kindsF2 : (Nat → Int32)) (t : State) => va_P D vwCl [(f, .inr (2, [.ref f_kinds, .ref f_signs, .ref f_sizes, .ref f_places, .ref f_limits, .ref f_starts, .ref f_sorts, .int f_count, .int f_sections, .int f_fifth])), (f_kinds, .inl (cI, 255, .inl f_kindsF2)), (f_signs, .inl (cI, 255, .inl f_signsF)), (f_sizes, .inl (cI, 255, .inl f_sizesF)), (f_starts, .inl (cI, 4, .inl f_startsF))] t.heap ∧ va_K D vwCl (ty3 cI cD cJ) t ∧ va_D (va_A [(f, .inr (2, [.ref f_kinds, .ref f_signs, .ref f_sizes, .ref f_places, .ref f_limits, .ref f_starts, .ref f_sorts, .int f_count, .int f_sections, .int f_fifth])), (f_kinds, .inl (cI, 255, .inl f_kindsF)), (f_signs, .inl (cI, 255, .inl f_signsF)), (f_sizes, .inl (cI, 255, .inl f_sizesF)), (f_starts, .inl (cI, 4, .inl f_startsF))] sz) [(f, .inr (2, [.ref f_kinds, .ref f_signs, .ref f_sizes, .ref f_places, .ref f_limits, .ref f_starts, .ref f_sorts, .int f_count, .int f_sections, .int f_fifth])), (f_kinds, .inl (cI, 255, .inl f_kindsF2)), (f_signs, .inl (cI, 255, .inl f_signsF)), (f_sizes, .inl (cI, 255, .inl f_sizesF)), (f_starts, .inl (cI, 4, .inl f_startsF))]) (va_A [(f, .inr (2, [.ref f_kinds, .ref f_signs, .ref f_sizes, .ref f_places, .ref f_limits, .ref f_starts, .ref f_sorts, .int f_count, .int f_sections, .int f_fifth])), (f_kinds, .inl (cI, 255, .inl f_kindsF)), (f_signs, .inl (cI, 255, .inl f_signsF)), (f_sizes, .inl (cI, 255, .inl f_sizesF)), (f_starts, .inl (cI, 4, .inl f_startsF))] sz)) 0 0 (va_A [(f, .inr (2, [.ref f_kinds, .ref f_signs, .ref f_sizes, .ref f_places, .ref f_limits, .ref f_starts, .ref f_sorts, .int f_count, .int f_sections, .int f_fifth])), (f_kinds, .inl (cI, 255, .inl f_kindsF)), (f_signs, .inl (cI, 255, .inl f_signsF)), (f_sizes, .inl (cI, 255, .inl f_sizesF)), (f_starts, .inl (cI, 4, .inl f_startsF))] sz) := by
  refine Met.ofW (cc := cX5_markMinutes) (maxL := 7) (ret := none) (by decide +kernel) rfl ?_
  intro p e s m args below meth c s₁ B hml hv
  obtain ⟨rfl, hsz, hP, hK, hD0⟩ := hv
  have hx := B.exec
  have hb := B.bytes
  have hr := B.returns
  have hts := atoms_spec (ws := pw_X5_markMinutes) B.pre
  have hown : s.vm.findClass RX5 = some m.cls := findClass_of_methodNamed B.named
  have hlocks := B.notSynchronized
  subst hsz
  have hD := hD0.self (sz := s.heap.size)
  generalize hAe : va_A [(f, .inr (2, [.ref f_kinds, .ref f_signs, .ref f_sizes, .ref f_places, .ref f_limits, .ref f_starts, .ref f_sorts, .int f_count, .int f_sections, .int f_fifth])), (f_kinds, .inl (cI, 255, .inl f_kindsF)), (f_signs, .inl (cI, 255, .inl f_signsF)), (f_sizes, .inl (cI, 255, .inl f_sizesF)), (f_starts, .inl (cI, 4, .inl f_startsF))] s.heap.size = A at hD ⊢
  have hA : ∀ q : Nat, s.heap.size ≤ q → A q := fun q h => by rw [← hAe]; exact Or.inr h
  have hS : va_S A s.heap s.heap [] := va_S.rf
  have hw : ∀ (k : Nat) (w : Cond), ow_X5_markMinutes[k]? = some w → w.before _ s = true := fun k w h => hts w (List.mem_cons_of_mem _ (have h9 := List.mem_of_getElem? h; List.mem_append_left _ h9))
  have i_X2_from : ∀ w ∈ pw_X2_from, w ∈ pw_X5_markMinutes := fun w h9 => List.mem_cons_of_mem _ (List.mem_append_right _ (List.mem_append_left _ h9))
  have i_X2_to : ∀ w ∈ pw_X2_to, w ∈ pw_X5_markMinutes := fun w h9 => List.mem_cons_of_mem _ (List.mem_append_right _ (List.mem_append_right _ (List.mem_append_left _ h9)))
  have i_X2_kind : ∀ w ∈ pw_X2_kind, w ∈ pw_X5_markMinutes := fun w h9 => List.mem_cons_of_mem _ (List.mem_append_right _ (List.mem_append_right _ (List.mem_append_right _ (List.mem_append_left _ h9))))
  have i_X2_sign : ∀ w ∈ pw_X2_sign, w ∈ pw_X5_markMinutes := fun w h9 => List.mem_cons_of_mem _ (List.mem_append_right _ (List.mem_append_right _ (List.mem_append_right _ (List.mem_append_right _ (List.mem_append_left _ h9)))))
  have i_X2_setKind : ∀ w ∈ pw_X2_setKind, w ∈ pw_X5_markMinutes := fun w h9 => List.mem_cons_of_mem _ (List.mem_append_right _ (List.mem_append_right _ (List.mem_append_right _ (List.mem_append_right _ (List.mem_append_right _ (List.mem_append_left _ h9))))))
  have i_X2_size : ∀ w ∈ pw_X2_size, w ∈ pw_X5_markMinutes := fun w h9 => List.mem_cons_of_mem _ (List.mem_append_right _ (List.mem_append_right _ (List.mem_append_right _ (List.mem_append_right _ (List.mem_append_right _ (List.mem_append_right _ (h9)))))))
  have n_m1 : (((-1) : Int32)).toInt = (-1) := by decide
  have n_0 : ((0 : Int32)).toInt = 0 := by decide
  have n_1 : ((1 : Int32)).toInt = 1 := by decide
  have n_104 : ((104 : Int32)).toInt = 104 := by decide
  have n_109 : ((109 : Int32)).toInt = 109 := by decide
  have n_115 : ((115 : Int32)).toInt = 115 := by decide
  have n_13 : ((13 : Int32)).toInt = 13 := by decide
  have n_17 : ((17 : Int32)).toInt = 17 := by decide
  have n_2 : ((2 : Int32)).toInt = 2 := by decide
  have n_3 : ((3 : Int32)).toInt = 3 := by decide
  have hl := lv_entry ([.ref f, .int p1]) (n := 7) (Nat.le_of_ble_eq_true rfl)
  rw [lg_entry_eq]
  generalize (lg_sl ([.ref f, .int p1]) ++ List.replicate (7 - (lg_sl ([.ref f, .int p1])).length) Slot.unset).toArray = ls at hl ⊢
  have hl : lv_has ls 7 [(0, .ref f), (1, .int p1)] := hl
  have b_p1 := ti_b p1
  refine zz_cap (fun Z hZ1 hZ2 => ?_)
  refine lv_iconst (v := (-1)) hx hb dX5_markMinutes_0 (by decide) ?_
  refine lv_istore_n (lv' := [(2, .int (-1)), (0, .ref f), (1, .int p1)]) hx hb dX5_markMinutes_1 rfl hl (by decide) rfl (fun ls hl => ?_)
  refine lv_iconst (v := (-1)) hx hb dX5_markMinutes_2 (by decide) ?_
  refine lv_istore_n (lv' := [(3, .int (-1)), (2, .int (-1)), (0, .ref f), (1, .int p1)]) hx hb dX5_markMinutes_3 rfl hl (by decide) rfl (fun ls hl => ?_)
  refine lv_aload_n hx hb dX5_markMinutes_4 rfl (lv_at hl 2 rfl) ?_
  refine lv_iload_n hx hb dX5_markMinutes_5 rfl (lv_at hl 3 rfl) ?_
  have hPc := hP.sub (ws' := [(f, .inr (2, [.ref f_kinds, .ref f_signs, .ref f_sizes, .ref f_places, .ref f_limits, .ref f_starts, .ref f_sorts, .int f_count, .int f_sections, .int f_fifth])), (f_starts, .inl (cI, 4, .inl f_startsF))]) [0, 4] rfl
  refine va_calli (va_runV (As := [.int p1]) (rest := []) ⟨hx, hb, hml, hown, hts⟩ (c_X2_from l D cI cD cJ s.heap.size f f_kinds f_signs f_sizes f_places f_limits f_starts f_sorts f_count f_sections f_fifth f_startsF p1 (by omega) (by omega) (by assumption)) (cwV 1 hts (goodIn_app (goodIn_r _ [1, 2, 3, 4] rfl (by decide +kernel)) (goodIn_sub i_X2_from k_X2_from)) rfl rfl rfl (by decide +kernel) ⟨Nat.le_of_ble_eq_true rfl, Nat.le_of_ble_eq_true rfl⟩) ⟨fun a U g mk q => by obtain ⟨q0, qP, qK⟩ := q; exact ⟨q0, qP, va_K.moved (u := U) (U := U.calling g mk a) (Vm.Alike.refl U.vm) qK⟩, va_recv hK hPc (ci := 2) (q0 := 0) rfl rfl, fun U hU hW => ⟨rfl, by rw [hU]; exact hPc, va_K.moved hW.alike hK⟩⟩ rfl rfl hl.1 rfl (lv_room (Nat.le_of_ble_eq_true rfl)) dX5_markMinutes_6 ⟨Nat.le_of_ble_eq_true rfl, Nat.le_of_ble_eq_true rfl⟩) hS (fun q _ h => h.elim) (fun q h => h.elim) (fun x_1 u t H1 locs ht hvm w_2 hB hz1 hk1 hS => ?_)
  have hP : va_P D vwCl [(f, .inr (2, [.ref f_kinds, .ref f_signs, .ref f_sizes, .ref f_places, .ref f_limits, .ref f_starts, .ref f_sorts, .int f_count, .int f_sections, .int f_fifth])), (f_kinds, .inl (cI, 255, .inl f_kindsF)), (f_signs, .inl (cI, 255, .inl f_signsF)), (f_sizes, .inl (cI, 255, .inl f_sizesF)), (f_starts, .inl (cI, 4, .inl f_startsF))] H1 := hP.kept (fun k9 q9 h9 => hk1 q9.1 (vx_lt hP h9) (fun h => h))
  generalize H1 = H at hP hS ⊢
  try dsimp only at w_2
  refine lv_istore (lv' := [(4, .int x_1), (3, .int (-1)), (2, .int (-1)), (0, .ref f), (1, .int p1)]) hx hb dX5_markMinutes_9 hl (by decide) rfl (fun ls hl => ?_)
  have L_11 : ∀ (N : Nat) (x_3 : Int32) (x_4 : Int32) (x_5 : Int32) (f_6 : Nat → Int32) (H : Heap) (locs : List Loc) (ls : Array Slot), ((2147483647 - (x_3 : Int32).toInt).toNat < N) → va_P D vwCl [(f, .inr (2, [.ref f_kinds, .ref f_signs, .ref f_sizes, .ref f_places, .ref f_limits, .ref f_starts, .ref f_sorts, .int f_count, .int f_sections, .int f_fifth])), (f_kinds, .inl (cI, 255, .inl f_6)), (f_signs, .inl (cI, 255, .inl f_signsF)), (f_sizes, .inl (cI, 255, .inl f_sizesF)), (f_starts, .inl (cI, 4, .inl f_startsF))] H → va_D A [(f, .inr (2, [.ref f_kinds, .ref f_signs, .ref f_sizes, .ref f_places, .ref f_limits, .ref f_starts, .ref f_sorts, .int f_count, .int f_sections, .int f_fifth])), (f_kinds, .inl (cI, 255, .inl f_6)), (f_signs, .inl (cI, 255, .inl f_signsF)), (f_sizes, .inl (cI, 255, .inl f_sizesF)), (f_starts, .inl (cI, 4, .inl f_startsF))] → va_S A s.heap H locs → lv_has ls 7 [(4, .int x_3), (3, .int x_4), (2, .int x_5), (0, .ref f), (1, .int p1)] → Z 0 0 H locs (F0 m 11 ls []) := by
    intro N
    induction N with
    | zero => intro _ _ _ _ _ _ _ hmu; exact absurd hmu (Nat.not_lt_zero _)
    | succ N ih_11 =>
      intro x_3 x_4 x_5 f_6 H locs ls  hmu hP hD hS hl
      refine hZ2 ?_
      refine lv_iload hx hb dX5_markMinutes_11 (lv_at hl 0 rfl) ?_
      refine lv_aload_n hx hb dX5_markMinutes_13 rfl (lv_at hl 3 rfl) ?_
      refine lv_iload_n hx hb dX5_markMinutes_14 rfl (lv_at hl 4 rfl) ?_
      have hPc := hP.sub (ws' := [(f, .inr (2, [.ref f_kinds, .ref f_signs, .ref f_sizes, .ref f_places, .ref f_limits, .ref f_starts, .ref f_sorts, .int f_count, .int f_sections, .int f_fifth])), (f_starts, .inl (cI, 4, .inl f_startsF))]) [0, 4] rfl
      refine va_calli (va_runV (As := [.int p1]) (rest := [.int x_3]) ⟨hx, hb, hml, hown, hts⟩ (c_X2_to l D cI cD cJ H.size f f_kinds f_signs f_sizes f_places f_limits f_starts f_sorts f_count f_sections f_fifth f_startsF p1 (by omega) (by omega) (by omega) (by assumption)) (cwV 1 hts (goodIn_app (goodIn_r _ [5, 6, 7, 4] rfl (by decide +kernel)) (goodIn_sub i_X2_to k_X2_to)) rfl rfl rfl (by decide +kernel) ⟨Nat.le_of_ble_eq_true rfl, Nat.le_of_ble_eq_true rfl⟩) ⟨fun a U g mk q => by obtain ⟨q0, qP, qK⟩ := q; exact ⟨q0, qP, va_K.moved (u := U) (U := U.calling g mk a) (Vm.Alike.refl U.vm) qK⟩, va_recv hK hPc (ci := 2) (q0 := 0) rfl rfl, fun U hU hW => ⟨rfl, by rw [hU]; exact hPc, va_K.moved hW.alike hK⟩⟩ rfl rfl hl.1 rfl (lv_room (Nat.le_of_ble_eq_true rfl)) dX5_markMinutes_15 ⟨Nat.le_of_ble_eq_true rfl, Nat.le_of_ble_eq_true rfl⟩) hS (fun q _ h => h.elim) (fun q h => h.elim) (fun x_7 u t H1 locs ht hvm w_8 hB hz1 hk1 hS => ?_)
      have hP : va_P D vwCl [(f, .inr (2, [.ref f_kinds, .ref f_signs, .ref f_sizes, .ref f_places, .ref f_limits, .ref f_starts, .ref f_sorts, .int f_count, .int f_sections, .int f_fifth])), (f_kinds, .inl (cI, 255, .inl f_6)), (f_signs, .inl (cI, 255, .inl f_signsF)), (f_sizes, .inl (cI, 255, .inl f_sizesF)), (f_starts, .inl (cI, 4, .inl f_startsF))] H1 := hP.kept (fun k9 q9 h9 => hk1 q9.1 (vx_lt hP h9) (fun h => h))
      generalize H1 = H at hP hS ⊢
      try dsimp only at w_8
      refine lv_icmp_ge (tgt := 130) hx hb dX5_markMinutes_18 (by decide) (fun c_9 => ?_) (fun c_9 => ?_)
      · have ic_9 : (x_7 : Int32).toInt ≤ (x_3 : Int32).toInt := (fa_le x_7 x_3).mp c_9
        have hP9 := hP.sub (ws' := [(f, .inr (2, [.ref f_kinds, .ref f_signs, .ref f_sizes, .ref f_places, .ref f_limits, .ref f_starts, .ref f_sorts, .int f_count, .int f_sections, .int f_fifth])), (f_kinds, .inl (cI, 255, .inl f_6)), (f_signs, .inl (cI, 255, .inl f_signsF)), (f_sizes, .inl (cI, 255, .inl f_sizesF)), (f_starts, .inl (cI, 4, .inl f_startsF))]) [0, 1, 2, 3, 4] rfl
        have hD9 := hD.sub (ws' := [(f, .inr (2, [.ref f_kinds, .ref f_signs, .ref f_sizes, .ref f_places, .ref f_limits, .ref f_starts, .ref f_sorts, .int f_count, .int f_sections, .int f_fifth])), (f_kinds, .inl (cI, 255, .inl f_6)), (f_signs, .inl (cI, 255, .inl f_signsF)), (f_sizes, .inl (cI, 255, .inl f_sizesF)), (f_starts, .inl (cI, 4, .inl f_startsF))]) [0, 1, 2, 3, 4] (by decide) rfl
        exact W.vret hx hb hr (fun t ht hW => ⟨⟨(f_6), rfl, trivial, by rw [ht]; exact hP9, va_K.moved hW.alike hK, hD9⟩, hS.F ht⟩) hS.2.2 dX5_markMinutes_130
      · have ic_9 : ¬ ((x_7 : Int32).toInt ≤ (x_3 : Int32).toInt) := fun h9 => c_9 ((fa_le x_7 x_3).mpr h9)
        refine lv_aload_n hx hb dX5_markMinutes_21 rfl (lv_at hl 3 rfl) ?_
        refine lv_iload hx hb dX5_markMinutes_22 (lv_at hl 0 rfl) ?_
        have hPc := hP.sub (ws' := [(f, .inr (2, [.ref f_kinds, .ref f_signs, .ref f_sizes, .ref f_places, .ref f_limits, .ref f_starts, .ref f_sorts, .int f_count, .int f_sections, .int f_fifth])), (f_kinds, .inl (cI, 255, .inl f_6))]) [0, 1] rfl
        refine va_calli (va_runV (As := [.int x_3]) (rest := []) ⟨hx, hb, hml, hown, hts⟩ (c_X2_kind l D cI cD cJ H.size f f_kinds f_signs f_sizes f_places f_limits f_starts f_sorts f_count f_sections f_fifth f_6 x_3 (by omega) (by omega)) (cwV 1 hts (goodIn_app (goodIn_r _ [8, 9, 10, 4] rfl (by decide +kernel)) (goodIn_sub i_X2_kind k_X2_kind)) rfl rfl rfl (by decide +kernel) ⟨Nat.le_of_ble_eq_true rfl, Nat.le_of_ble_eq_true rfl⟩) ⟨fun a U g mk q => by obtain ⟨q0, qP, qK⟩ := q; exact ⟨q0, qP, va_K.moved (u := U) (U := U.calling g mk a) (Vm.Alike.refl U.vm) qK⟩, va_recv hK hPc (ci := 2) (q0 := 0) rfl rfl, fun U hU hW => ⟨rfl, by rw [hU]; exact hPc, va_K.moved hW.alike hK⟩⟩ rfl rfl hl.1 rfl (lv_room (Nat.le_of_ble_eq_true rfl)) dX5_markMinutes_24 ⟨Nat.le_of_ble_eq_true rfl, Nat.le_of_ble_eq_true rfl⟩) hS (fun q _ h => h.elim) (fun q h => h.elim) (fun x_10 u t H1 locs ht hvm w_11 hB hz1 hk1 hS => ?_)
        have hP : va_P D vwCl [(f, .inr (2, [.ref f_kinds, .ref f_signs, .ref f_sizes, .ref f_places, .ref f_limits, .ref f_starts, .ref f_sorts, .int f_count, .int f_sections, .int f_fifth])), (f_kinds, .inl (cI, 255, .inl f_6)), (f_signs, .inl (cI, 255, .inl f_signsF)), (f_sizes, .inl (cI, 255, .inl f_sizesF)), (f_starts, .inl (cI, 4, .inl f_startsF))] H1 := hP.kept (fun k9 q9 h9 => hk1 q9.1 (vx_lt hP h9) (fun h => h))
        generalize H1 = H at hP hS ⊢
        have b_x_10 := ti_b x_10
        refine lv_bipush (v := 13) hx hb dX5_markMinutes_27 (by decide) ?_
        have K_37 : ∀ (z_12 : Int32) (H : Heap) (locs : List Loc) (ls : Array Slot), ((z_12 : Int32).toInt = 0 ∨ (z_12 : Int32).toInt = 1) → va_P D vwCl [(f, .inr (2, [.ref f_kinds, .ref f_signs, .ref f_sizes, .ref f_places, .ref f_limits, .ref f_starts, .ref f_sorts, .int f_count, .int f_sections, .int f_fifth])), (f_kinds, .inl (cI, 255, .inl f_6)), (f_signs, .inl (cI, 255, .inl f_signsF)), (f_sizes, .inl (cI, 255, .inl f_sizesF)), (f_starts, .inl (cI, 4, .inl f_startsF))] H → va_D A [(f, .inr (2, [.ref f_kinds, .ref f_signs, .ref f_sizes, .ref f_places, .ref f_limits, .ref f_starts, .ref f_sorts, .int f_count, .int f_sections, .int f_fifth])), (f_kinds, .inl (cI, 255, .inl f_6)), (f_signs, .inl (cI, 255, .inl f_signsF)), (f_sizes, .inl (cI, 255, .inl f_sizesF)), (f_starts, .inl (cI, 4, .inl f_startsF))] → va_S A s.heap H locs → lv_has ls 7 [(4, .int x_3), (3, .int x_4), (2, .int x_5), (0, .ref f), (1, .int p1)] → Z 0 0 H locs (F0 m 37 ls [.int z_12]) := by
          intro z_12 H locs ls g37_0 hP hD hS hl
          refine hZ2 ?_
          refine lv_istore (lv' := [(5, .int z_12), (4, .int x_3), (3, .int x_4), (2, .int x_5), (0, .ref f), (1, .int p1)]) hx hb dX5_markMinutes_37 hl (by decide) rfl (fun ls hl => ?_)
          refine lv_iload hx hb dX5_markMinutes_39 (lv_at hl 0 rfl) ?_
          have K_57 : ∀ (H : Heap) (locs : List Loc) (ls : Array Slot), va_P D vwCl [(f, .inr (2, [.ref f_kinds, .ref f_signs, .ref f_sizes, .ref f_places, .ref f_limits, .ref f_starts, .ref f_sorts, .int f_count, .int f_sections, .int f_fifth])), (f_kinds, .inl (cI, 255, .inl f_6)), (f_signs, .inl (cI, 255, .inl f_signsF)), (f_sizes, .inl (cI, 255, .inl f_sizesF)), (f_starts, .inl (cI, 4, .inl f_startsF))] H → va_D A [(f, .inr (2, [.ref f_kinds, .ref f_signs, .ref f_sizes, .ref f_places, .ref f_limits, .ref f_starts, .ref f_sorts, .int f_count, .int f_sections, .int f_fifth])), (f_kinds, .inl (cI, 255, .inl f_6)), (f_signs, .inl (cI, 255, .inl f_signsF)), (f_sizes, .inl (cI, 255, .inl f_sizesF)), (f_starts, .inl (cI, 4, .inl f_startsF))] → va_S A s.heap H locs → lv_has ls 7 [(5, .int z_12), (4, .int x_3), (3, .int x_4), (2, .int x_5), (0, .ref f), (1, .int p1)] → Z 0 0 H locs (F0 m 57 ls []) := by
            intro  H locs ls  hP hD hS hl
            refine hZ2 ?_
            refine lv_aload_n hx hb dX5_markMinutes_57 rfl (lv_at hl 4 rfl) ?_
            refine lv_iload hx hb dX5_markMinutes_58 (lv_at hl 1 rfl) ?_
            have hPc := hP.sub (ws' := [(f, .inr (2, [.ref f_kinds, .ref f_signs, .ref f_sizes, .ref f_places, .ref f_limits, .ref f_starts, .ref f_sorts, .int f_count, .int f_sections, .int f_fifth])), (f_signs, .inl (cI, 255, .inl f_signsF))]) [0, 2] rfl
            refine va_calli (va_runV (As := [.int x_3]) (rest := []) ⟨hx, hb, hml, hown, hts⟩ (c_X2_sign l D cI cD cJ H.size f f_kinds f_signs f_sizes f_places f_limits f_starts f_sorts f_count f_sections f_fifth f_signsF x_3 (by omega) (by omega)) (cwV 1 hts (goodIn_app (goodIn_r _ [11, 12, 13, 4] rfl (by decide +kernel)) (goodIn_sub i_X2_sign k_X2_sign)) rfl rfl rfl (by decide +kernel) ⟨Nat.le_of_ble_eq_true rfl, Nat.le_of_ble_eq_true rfl⟩) ⟨fun a U g mk q => by obtain ⟨q0, qP, qK⟩ := q; exact ⟨q0, qP, va_K.moved (u := U) (U := U.calling g mk a) (Vm.Alike.refl U.vm) qK⟩, va_recv hK hPc (ci := 2) (q0 := 0) rfl rfl, fun U hU hW => ⟨rfl, by rw [hU]; exact hPc, va_K.moved hW.alike hK⟩⟩ rfl rfl hl.1 rfl (lv_room (Nat.le_of_ble_eq_true rfl)) dX5_markMinutes_60 ⟨Nat.le_of_ble_eq_true rfl, Nat.le_of_ble_eq_true rfl⟩) hS (fun q _ h => h.elim) (fun q h => h.elim) (fun x_13 u t H1 locs ht hvm w_14 hB hz1 hk1 hS => ?_)
            have hP : va_P D vwCl [(f, .inr (2, [.ref f_kinds, .ref f_signs, .ref f_sizes, .ref f_places, .ref f_limits, .ref f_starts, .ref f_sorts, .int f_count, .int f_sections, .int f_fifth])), (f_kinds, .inl (cI, 255, .inl f_6)), (f_signs, .inl (cI, 255, .inl f_signsF)), (f_sizes, .inl (cI, 255, .inl f_sizesF)), (f_starts, .inl (cI, 4, .inl f_startsF))] H1 := hP.kept (fun k9 q9 h9 => hk1 q9.1 (vx_lt hP h9) (fun h => h))
            generalize H1 = H at hP hS ⊢
            have b_x_13 := ti_b x_13
            refine lv_istore (lv' := [(6, .int x_13), (5, .int z_12), (4, .int x_3), (3, .int x_4), (2, .int x_5), (0, .ref f), (1, .int p1)]) hx hb dX5_markMinutes_63 hl (by decide) rfl (fun ls hl => ?_)
            refine lv_iload hx hb dX5_markMinutes_65 (lv_at hl 0 rfl) ?_
            refine lv_bipush (v := 115) hx hb dX5_markMinutes_67 (by decide) ?_
            have K_79 : ∀ (f_15 : Nat → Int32) (H : Heap) (locs : List Loc) (ls : Array Slot), va_P D vwCl [(f, .inr (2, [.ref f_kinds, .ref f_signs, .ref f_sizes, .ref f_places, .ref f_limits, .ref f_starts, .ref f_sorts, .int f_count, .int f_sections, .int f_fifth])), (f_kinds, .inl (cI, 255, .inl f_15)), (f_signs, .inl (cI, 255, .inl f_signsF)), (f_sizes, .inl (cI, 255, .inl f_sizesF)), (f_starts, .inl (cI, 4, .inl f_startsF))] H → va_D A [(f, .inr (2, [.ref f_kinds, .ref f_signs, .ref f_sizes, .ref f_places, .ref f_limits, .ref f_starts, .ref f_sorts, .int f_count, .int f_sections, .int f_fifth])), (f_kinds, .inl (cI, 255, .inl f_15)), (f_signs, .inl (cI, 255, .inl f_signsF)), (f_sizes, .inl (cI, 255, .inl f_sizesF)), (f_starts, .inl (cI, 4, .inl f_startsF))] → va_S A s.heap H locs → lv_has ls 7 [(6, .int x_13), (5, .int z_12), (4, .int x_3), (2, .int x_5), (0, .ref f), (1, .int p1)] → Z 0 0 H locs (F0 m 79 ls []) := by
              intro f_15 H locs ls  hP hD hS hl
              refine hZ2 ?_
              refine lv_iload hx hb dX5_markMinutes_79 (lv_at hl 1 rfl) ?_
              have K_107 : ∀ (z_16 : Int32) (H : Heap) (locs : List Loc) (ls : Array Slot), va_P D vwCl [(f, .inr (2, [.ref f_kinds, .ref f_signs, .ref f_sizes, .ref f_places, .ref f_limits, .ref f_starts, .ref f_sorts, .int f_count, .int f_sections, .int f_fifth])), (f_kinds, .inl (cI, 255, .inl f_15)), (f_signs, .inl (cI, 255, .inl f_signsF)), (f_sizes, .inl (cI, 255, .inl f_sizesF)), (f_starts, .inl (cI, 4, .inl f_startsF))] H → va_D A [(f, .inr (2, [.ref f_kinds, .ref f_signs, .ref f_sizes, .ref f_places, .ref f_limits, .ref f_starts, .ref f_sorts, .int f_count, .int f_sections, .int f_fifth])), (f_kinds, .inl (cI, 255, .inl f_15)), (f_signs, .inl (cI, 255, .inl f_signsF)), (f_sizes, .inl (cI, 255, .inl f_sizesF)), (f_starts, .inl (cI, 4, .inl f_startsF))] → va_S A s.heap H locs → lv_has ls 7 [(6, .int x_13), (4, .int x_3), (2, .int x_5), (0, .ref f), (1, .int p1)] → Z 0 0 H locs (F0 m 107 ls [.int z_16]) := by
                intro z_16 H locs ls  hP hD hS hl
                refine hZ2 ?_
                refine lv_istore_n (lv' := [(3, .int z_16), (6, .int x_13), (4, .int x_3), (2, .int x_5), (0, .ref f), (1, .int p1)]) hx hb dX5_markMinutes_107 rfl hl (by decide) rfl (fun ls hl => ?_)
                refine lv_iload_n hx hb dX5_markMinutes_108 rfl (lv_at hl 3 rfl) ?_
                refine lv_bipush (v := 104) hx hb dX5_markMinutes_109 (by decide) ?_
                have K_121 : ∀ (f_17 : Nat → Int32) (H : Heap) (locs : List Loc) (ls : Array Slot), va_P D vwCl [(f, .inr (2, [.ref f_kinds, .ref f_signs, .ref f_sizes, .ref f_places, .ref f_limits, .ref f_starts, .ref f_sorts, .int f_count, .int f_sections, .int f_fifth])), (f_kinds, .inl (cI, 255, .inl f_17)), (f_signs, .inl (cI, 255, .inl f_signsF)), (f_sizes, .inl (cI, 255, .inl f_sizesF)), (f_starts, .inl (cI, 4, .inl f_startsF))] H → va_D A [(f, .inr (2, [.ref f_kinds, .ref f_signs, .ref f_sizes, .ref f_places, .ref f_limits, .ref f_starts, .ref f_sorts, .int f_count, .int f_sections, .int f_fifth])), (f_kinds, .inl (cI, 255, .inl f_17)), (f_signs, .inl (cI, 255, .inl f_signsF)), (f_sizes, .inl (cI, 255, .inl f_sizesF)), (f_starts, .inl (cI, 4, .inl f_startsF))] → va_S A s.heap H locs → lv_has ls 7 [(3, .int z_16), (6, .int x_13), (4, .int x_3), (0, .ref f), (1, .int p1)] → Z 0 0 H locs (F0 m 121 ls []) := by
                  intro f_17 H locs ls  hP hD hS hl
                  refine hZ2 ?_
                  refine lv_iload hx hb dX5_markMinutes_121 (lv_at hl 1 rfl) ?_
                  refine lv_istore_n (lv' := [(2, .int x_13), (3, .int z_16), (6, .int x_13), (4, .int x_3), (0, .ref f), (1, .int p1)]) hx hb dX5_markMinutes_123 rfl hl (by decide) rfl (fun ls hl => ?_)
                  obtain ⟨x_18, ex_18⟩ : ∃ y : Int32, y = x_3 + 1 := ⟨_, rfl⟩
                  have b_x_3 := ti_b x_3
                  have tx_18 := ti_add ex_18
                  refine lv_iinc (v := x_18) (lv' := [(4, .int x_18), (2, .int x_13), (3, .int z_16), (6, .int x_13), (0, .ref f), (1, .int p1)]) hx hb dX5_markMinutes_124 hl (k := 3) rfl (by rw [ex_18]; rfl) (by decide) rfl (fun ls hl => ?_)
                  refine lv_goto (tgt := 11) hx hb dX5_markMinutes_127 (by decide) ?_
                  exact hZ1 (ih_11 x_18 z_16 x_13 f_17 _ _ _ (by omega) hP hD hS (lv_sub hl [0, 2, 1, 4, 5] rfl))
                refine lv_icmp_ne (tgt := 121) hx hb dX5_markMinutes_111 (by decide) (fun c_19 => ?_) (fun c_19 => ?_)
                · have ic_19 : ¬ ((x_5 : Int32).toInt = (104 : Int32).toInt) := fun h9 => c_19 ((fa_eq x_5 104).mpr h9)
                  exact hZ1 (K_121 f_15 _ _ _ hP hD hS (lv_sub hl [0, 1, 2, 4, 5] rfl))
                · have ic_19 : (x_5 : Int32).toInt = (104 : Int32).toInt := (fa_eq x_5 104).mp c_19
                  refine lv_aload_n hx hb dX5_markMinutes_114 rfl (lv_at hl 4 rfl) ?_
                  refine lv_iload_n hx hb dX5_markMinutes_115 rfl (lv_at hl 0 rfl) ?_
                  refine lv_bipush (v := 17) hx hb dX5_markMinutes_116 (by decide) ?_
                  have hPc := hP.sub (ws' := [(f, .inr (2, [.ref f_kinds, .ref f_signs, .ref f_sizes, .ref f_places, .ref f_limits, .ref f_starts, .ref f_sorts, .int f_count, .int f_sections, .int f_fifth])), (f_kinds, .inl (cI, 255, .inl f_15))]) [0, 1] rfl
                  have hDc := hD.sub (ws' := [(f, .inr (2, [.ref f_kinds, .ref f_signs, .ref f_sizes, .ref f_places, .ref f_limits, .ref f_starts, .ref f_sorts, .int f_count, .int f_sections, .int f_fifth])), (f_kinds, .inl (cI, 255, .inl f_15))]) [0, 1] (by decide) rfl
                  have hFc := va_free (wc := [(f, .inr (2, [.ref f_kinds, .ref f_signs, .ref f_sizes, .ref f_places, .ref f_limits, .ref f_starts, .ref f_sorts, .int f_count, .int f_sections, .int f_fifth])), (f_kinds, .inl (cI, 255, .inl f_15))]) hD hS hA [0, 1] rfl
                  refine va_callv (va_runV (As := [.int z_16, .int 17]) (rest := []) ⟨hx, hb, hml, hown, hts⟩ (c_X2_setKind l D cI cD cJ H.size f f_kinds f_signs f_sizes f_places f_limits f_starts f_sorts f_count f_sections f_fifth f_15 z_16 17 (by omega) (by omega)) (cwV 2 hts (goodIn_app (goodIn_r _ [14, 15, 16, 4] rfl (by decide +kernel)) (goodIn_sub i_X2_setKind k_X2_setKind)) rfl rfl rfl (by decide +kernel) ⟨Nat.le_of_ble_eq_true rfl, Nat.le_of_ble_eq_true rfl⟩) ⟨fun a U g mk q => by obtain ⟨q0, q1, qP, qK, qD⟩ := q; exact ⟨q0, q1, qP, va_K.moved (u := U) (U := U.calling g mk a) (Vm.Alike.refl U.vm) qK, qD⟩, va_recv hK hPc (ci := 2) (q0 := 0) rfl rfl, fun U hU hW => ⟨rfl, by rw [hU], by rw [hU]; exact hPc, va_K.moved hW.alike hK, hDc.weaken (fun _ _ _ _ => trivial)⟩⟩ rfl rfl hl.1 rfl (lv_room (Nat.le_of_ble_eq_true rfl)) dX5_markMinutes_118 ⟨Nat.le_of_ble_eq_true rfl, Nat.le_of_ble_eq_true rfl⟩) hS (fun q _ h => hFc q h) hFc (fun u t H1 locs ht hvm w_20 hB hz1 hk1 hS => ?_)
                  generalize u = u_21 at w_20 hB
                  obtain ⟨hP1, hK1, hD1⟩ := hB
                  rw [ht] at hP1
                  obtain ⟨hP, hD⟩ := va_join (wr := [(f_signs, .inl (cI, 255, .inl f_signsF)), (f_sizes, .inl (cI, 255, .inl f_sizesF)), (f_starts, .inl (cI, 4, .inl f_startsF))]) (w1 := [(f, .inr (2, [.ref f_kinds, .ref f_signs, .ref f_sizes, .ref f_places, .ref f_limits, .ref f_starts, .ref f_sorts, .int f_count, .int f_sections, .int f_fifth])), (f_kinds, .inl (cI, 255, .inl u_21))]) hP hD [0, 1] [2, 3, 4] rfl rfl (by decide) (by decide) hk1 hFc hP1 hD1
                  generalize H1 = H at hP hS ⊢
                  have hP : va_P D vwCl [(f_signs, .inl (cI, 255, .inl f_signsF)), (f_sizes, .inl (cI, 255, .inl f_sizesF)), (f_starts, .inl (cI, 4, .inl f_startsF)), (f, .inr (2, [.ref f_kinds, .ref f_signs, .ref f_sizes, .ref f_places, .ref f_limits, .ref f_starts, .ref f_sorts, .int f_count, .int f_sections, .int f_fifth])), (f_kinds, .inl (cI, 255, .inl u_21))] H := hP
                  have hD : va_D A [(f_signs, .inl (cI, 255, .inl f_signsF)), (f_sizes, .inl (cI, 255, .inl f_sizesF)), (f_starts, .inl (cI, 4, .inl f_startsF)), (f, .inr (2, [.ref f_kinds, .ref f_signs, .ref f_sizes, .ref f_places, .ref f_limits, .ref f_starts, .ref f_sorts, .int f_count, .int f_sections, .int f_fifth])), (f_kinds, .inl (cI, 255, .inl u_21))] := hD
                  exact hZ1 (K_121 u_21 _ _ _ (hP.sub [3, 4, 0, 1, 2] rfl) (hD.sub [3, 4, 0, 1, 2] (by decide) rfl) hS (lv_sub hl [0, 1, 2, 4, 5] rfl))
              have K_106 : ∀ (H : Heap) (locs : List Loc) (ls : Array Slot), va_P D vwCl [(f, .inr (2, [.ref f_kinds, .ref f_signs, .ref f_sizes, .ref f_places, .ref f_limits, .ref f_starts, .ref f_sorts, .int f_count, .int f_sections, .int f_fifth])), (f_kinds, .inl (cI, 255, .inl f_15)), (f_signs, .inl (cI, 255, .inl f_signsF)), (f_sizes, .inl (cI, 255, .inl f_sizesF)), (f_starts, .inl (cI, 4, .inl f_startsF))] H → va_D A [(f, .inr (2, [.ref f_kinds, .ref f_signs, .ref f_sizes, .ref f_places, .ref f_limits, .ref f_starts, .ref f_sorts, .int f_count, .int f_sections, .int f_fifth])), (f_kinds, .inl (cI, 255, .inl f_15)), (f_signs, .inl (cI, 255, .inl f_signsF)), (f_sizes, .inl (cI, 255, .inl f_sizesF)), (f_starts, .inl (cI, 4, .inl f_startsF))] → va_S A s.heap H locs → lv_has ls 7 [(6, .int x_13), (4, .int x_3), (2, .int x_5), (0, .ref f), (1, .int p1)] → Z 0 0 H locs (F0 m 106 ls []) := by
                intro  H locs ls  hP hD hS hl
                refine hZ2 ?_
                refine lv_iconst (v := (-1)) hx hb dX5_markMinutes_106 (by decide) ?_
                exact hZ1 (K_107 (-1) _ _ _ hP hD hS hl)
              refine lv_if_eq (tgt := 106) hx hb dX5_markMinutes_81 (by decide) (fun c_22 => ?_) (fun c_22 => ?_)
              · have ic_22 : (z_12 : Int32).toInt = (0 : Int32).toInt := (fa_eq z_12 0).mp c_22
                exact hZ1 (K_106  _ _ _ hP hD hS (lv_sub hl [0, 2, 3, 4, 5] rfl))
              · have ic_22 : ¬ ((z_12 : Int32).toInt = (0 : Int32).toInt) := fun h9 => c_22 ((fa_eq z_12 0).mpr h9)
                refine lv_iload hx hb dX5_markMinutes_84 (lv_at hl 0 rfl) ?_
                refine lv_bipush (v := 109) hx hb dX5_markMinutes_86 (by decide) ?_
                refine lv_icmp_ne (tgt := 106) hx hb dX5_markMinutes_88 (by decide) (fun c_23 => ?_) (fun c_23 => ?_)
                · have ic_23 : ¬ ((x_13 : Int32).toInt = (109 : Int32).toInt) := fun h9 => c_23 ((fa_eq x_13 109).mpr h9)
                  exact hZ1 (K_106  _ _ _ hP hD hS (lv_sub hl [0, 2, 3, 4, 5] rfl))
                · have ic_23 : (x_13 : Int32).toInt = (109 : Int32).toInt := (fa_eq x_13 109).mp c_23
                  refine lv_aload_n hx hb dX5_markMinutes_91 rfl (lv_at hl 4 rfl) ?_
                  refine lv_iload hx hb dX5_markMinutes_92 (lv_at hl 2 rfl) ?_
                  have hPc := hP.sub (ws' := [(f, .inr (2, [.ref f_kinds, .ref f_signs, .ref f_sizes, .ref f_places, .ref f_limits, .ref f_starts, .ref f_sorts, .int f_count, .int f_sections, .int f_fifth])), (f_sizes, .inl (cI, 255, .inl f_sizesF))]) [0, 3] rfl
                  refine va_calli (va_runV (As := [.int x_3]) (rest := []) ⟨hx, hb, hml, hown, hts⟩ (c_X2_size l D cI cD cJ H.size f f_kinds f_signs f_sizes f_places f_limits f_starts f_sorts f_count f_sections f_fifth f_sizesF x_3 (by omega) (by omega) (by assumption)) (cwV 1 hts (goodIn_app (goodIn_r _ [17, 18, 19, 4] rfl (by decide +kernel)) (goodIn_sub i_X2_size k_X2_size)) rfl rfl rfl (by decide +kernel) ⟨Nat.le_of_ble_eq_true rfl, Nat.le_of_ble_eq_true rfl⟩) ⟨fun a U g mk q => by obtain ⟨q0, qP, qK⟩ := q; exact ⟨q0, qP, va_K.moved (u := U) (U := U.calling g mk a) (Vm.Alike.refl U.vm) qK⟩, va_recv hK hPc (ci := 2) (q0 := 0) rfl rfl, fun U hU hW => ⟨rfl, by rw [hU]; exact hPc, va_K.moved hW.alike hK⟩⟩ rfl rfl hl.1 rfl (lv_room (Nat.le_of_ble_eq_true rfl)) dX5_markMinutes_94 ⟨Nat.le_of_ble_eq_true rfl, Nat.le_of_ble_eq_true rfl⟩) hS (fun q _ h => h.elim) (fun q h => h.elim) (fun x_24 u t H1 locs ht hvm w_25 hB hz1 hk1 hS => ?_)
                  have hP : va_P D vwCl [(f, .inr (2, [.ref f_kinds, .ref f_signs, .ref f_sizes, .ref f_places, .ref f_limits, .ref f_starts, .ref f_sorts, .int f_count, .int f_sections, .int f_fifth])), (f_kinds, .inl (cI, 255, .inl f_15)), (f_signs, .inl (cI, 255, .inl f_signsF)), (f_sizes, .inl (cI, 255, .inl f_sizesF)), (f_starts, .inl (cI, 4, .inl f_startsF))] H1 := hP.kept (fun k9 q9 h9 => hk1 q9.1 (vx_lt hP h9) (fun h => h))
                  generalize H1 = H at hP hS ⊢
                  try dsimp only at w_25
                  have b_x_24 := ti_b x_24
                  refine lv_iconst (v := 2) hx hb dX5_markMinutes_97 (by decide) ?_
                  refine lv_icmp_gt (tgt := 106) hx hb dX5_markMinutes_98 (by decide) (fun c_26 => ?_) (fun c_26 => ?_)
                  · have ic_26 : (2 : Int32).toInt < (x_24 : Int32).toInt := (fa_lt 2 x_24).mp c_26
                    exact hZ1 (K_106  _ _ _ hP hD hS (lv_sub hl [0, 2, 3, 4, 5] rfl))
                  · have ic_26 : ¬ ((2 : Int32).toInt < (x_24 : Int32).toInt) := fun h9 => c_26 ((fa_lt 2 x_24).mpr h9)
                    refine lv_iload hx hb dX5_markMinutes_101 (lv_at hl 2 rfl) ?_
                    refine lv_goto (tgt := 107) hx hb dX5_markMinutes_103 (by decide) ?_
                    exact hZ1 (K_107 x_3 _ _ _ hP hD hS (lv_sub hl [0, 2, 3, 4, 5] rfl))
            refine lv_icmp_ne (tgt := 79) hx hb dX5_markMinutes_69 (by decide) (fun c_27 => ?_) (fun c_27 => ?_)
            · have ic_27 : ¬ ((x_13 : Int32).toInt = (115 : Int32).toInt) := fun h9 => c_27 ((fa_eq x_13 115).mpr h9)
              exact hZ1 (K_79 f_6 _ _ _ hP hD hS (lv_sub hl [0, 1, 2, 4, 5, 6] rfl))
            · have ic_27 : (x_13 : Int32).toInt = (115 : Int32).toInt := (fa_eq x_13 115).mp c_27
              refine lv_aload_n hx hb dX5_markMinutes_72 rfl (lv_at hl 5 rfl) ?_
              refine lv_iload_n hx hb dX5_markMinutes_73 rfl (lv_at hl 3 rfl) ?_
              refine lv_bipush (v := 17) hx hb dX5_markMinutes_74 (by decide) ?_
              have hPc := hP.sub (ws' := [(f, .inr (2, [.ref f_kinds, .ref f_signs, .ref f_sizes, .ref f_places, .ref f_limits, .ref f_starts, .ref f_sorts, .int f_count, .int f_sections, .int f_fifth])), (f_kinds, .inl (cI, 255, .inl f_6))]) [0, 1] rfl
              have hDc := hD.sub (ws' := [(f, .inr (2, [.ref f_kinds, .ref f_signs, .ref f_sizes, .ref f_places, .ref f_limits, .ref f_starts, .ref f_sorts, .int f_count, .int f_sections, .int f_fifth])), (f_kinds, .inl (cI, 255, .inl f_6))]) [0, 1] (by decide) rfl
              have hFc := va_free (wc := [(f, .inr (2, [.ref f_kinds, .ref f_signs, .ref f_sizes, .ref f_places, .ref f_limits, .ref f_starts, .ref f_sorts, .int f_count, .int f_sections, .int f_fifth])), (f_kinds, .inl (cI, 255, .inl f_6))]) hD hS hA [0, 1] rfl
              refine va_callv (va_runV (As := [.int x_4, .int 17]) (rest := []) ⟨hx, hb, hml, hown, hts⟩ (c_X2_setKind l D cI cD cJ H.size f f_kinds f_signs f_sizes f_places f_limits f_starts f_sorts f_count f_sections f_fifth f_6 x_4 17 (by omega) (by omega)) (cwV 2 hts (goodIn_app (goodIn_r _ [14, 15, 16, 4] rfl (by decide +kernel)) (goodIn_sub i_X2_setKind k_X2_setKind)) rfl rfl rfl (by decide +kernel) ⟨Nat.le_of_ble_eq_true rfl, Nat.le_of_ble_eq_true rfl⟩) ⟨fun a U g mk q => by obtain ⟨q0, q1, qP, qK, qD⟩ := q; exact ⟨q0, q1, qP, va_K.moved (u := U) (U := U.calling g mk a) (Vm.Alike.refl U.vm) qK, qD⟩, va_recv hK hPc (ci := 2) (q0 := 0) rfl rfl, fun U hU hW => ⟨rfl, by rw [hU], by rw [hU]; exact hPc, va_K.moved hW.alike hK, hDc.weaken (fun _ _ _ _ => trivial)⟩⟩ rfl rfl hl.1 rfl (lv_room (Nat.le_of_ble_eq_true rfl)) dX5_markMinutes_76 ⟨Nat.le_of_ble_eq_true rfl, Nat.le_of_ble_eq_true rfl⟩) hS (fun q _ h => hFc q h) hFc (fun u t H1 locs ht hvm w_28 hB hz1 hk1 hS => ?_)
              generalize u = u_29 at w_28 hB
              obtain ⟨hP1, hK1, hD1⟩ := hB
              rw [ht] at hP1
              obtain ⟨hP, hD⟩ := va_join (wr := [(f_signs, .inl (cI, 255, .inl f_signsF)), (f_sizes, .inl (cI, 255, .inl f_sizesF)), (f_starts, .inl (cI, 4, .inl f_startsF))]) (w1 := [(f, .inr (2, [.ref f_kinds, .ref f_signs, .ref f_sizes, .ref f_places, .ref f_limits, .ref f_starts, .ref f_sorts, .int f_count, .int f_sections, .int f_fifth])), (f_kinds, .inl (cI, 255, .inl u_29))]) hP hD [0, 1] [2, 3, 4] rfl rfl (by decide) (by decide) hk1 hFc hP1 hD1
              generalize H1 = H at hP hS ⊢
              have hP : va_P D vwCl [(f_signs, .inl (cI, 255, .inl f_signsF)), (f_sizes, .inl (cI, 255, .inl f_sizesF)), (f_starts, .inl (cI, 4, .inl f_startsF)), (f, .inr (2, [.ref f_kinds, .ref f_signs, .ref f_sizes, .ref f_places, .ref f_limits, .ref f_starts, .ref f_sorts, .int f_count, .int f_sections, .int f_fifth])), (f_kinds, .inl (cI, 255, .inl u_29))] H := hP
              have hD : va_D A [(f_signs, .inl (cI, 255, .inl f_signsF)), (f_sizes, .inl (cI, 255, .inl f_sizesF)), (f_starts, .inl (cI, 4, .inl f_startsF)), (f, .inr (2, [.ref f_kinds, .ref f_signs, .ref f_sizes, .ref f_places, .ref f_limits, .ref f_starts, .ref f_sorts, .int f_count, .int f_sections, .int f_fifth])), (f_kinds, .inl (cI, 255, .inl u_29))] := hD
              exact hZ1 (K_79 u_29 _ _ _ (hP.sub [3, 4, 0, 1, 2] rfl) (hD.sub [3, 4, 0, 1, 2] (by decide) rfl) hS (lv_sub hl [0, 1, 2, 4, 5, 6] rfl))
          refine lv_if_ne (tgt := 57) hx hb dX5_markMinutes_41 (by decide) (fun c_30 => ?_) (fun c_30 => ?_)
          · have ic_30 : ¬ ((z_12 : Int32).toInt = (0 : Int32).toInt) := fun h9 => c_30 ((fa_eq z_12 0).mpr h9)
            exact hZ1 (K_57  _ _ _ hP hD hS hl)
          · have ic_30 : (z_12 : Int32).toInt = (0 : Int32).toInt := (fa_eq z_12 0).mp c_30
            refine lv_aload_n hx hb dX5_markMinutes_44 rfl (lv_at hl 4 rfl) ?_
            refine lv_iload hx hb dX5_markMinutes_45 (lv_at hl 1 rfl) ?_
            have hPc := hP.sub (ws' := [(f, .inr (2, [.ref f_kinds, .ref f_signs, .ref f_sizes, .ref f_places, .ref f_limits, .ref f_starts, .ref f_sorts, .int f_count, .int f_sections, .int f_fifth])), (f_kinds, .inl (cI, 255, .inl f_6))]) [0, 1] rfl
            refine va_calli (va_runV (As := [.int x_3]) (rest := []) ⟨hx, hb, hml, hown, hts⟩ (c_X2_kind l D cI cD cJ H.size f f_kinds f_signs f_sizes f_places f_limits f_starts f_sorts f_count f_sections f_fifth f_6 x_3 (by omega) (by omega)) (cwV 1 hts (goodIn_app (goodIn_r _ [8, 9, 10, 4] rfl (by decide +kernel)) (goodIn_sub i_X2_kind k_X2_kind)) rfl rfl rfl (by decide +kernel) ⟨Nat.le_of_ble_eq_true rfl, Nat.le_of_ble_eq_true rfl⟩) ⟨fun a U g mk q => by obtain ⟨q0, qP, qK⟩ := q; exact ⟨q0, qP, va_K.moved (u := U) (U := U.calling g mk a) (Vm.Alike.refl U.vm) qK⟩, va_recv hK hPc (ci := 2) (q0 := 0) rfl rfl, fun U hU hW => ⟨rfl, by rw [hU]; exact hPc, va_K.moved hW.alike hK⟩⟩ rfl rfl hl.1 rfl (lv_room (Nat.le_of_ble_eq_true rfl)) dX5_markMinutes_47 ⟨Nat.le_of_ble_eq_true rfl, Nat.le_of_ble_eq_true rfl⟩) hS (fun q _ h => h.elim) (fun q h => h.elim) (fun x_31 u t H1 locs ht hvm w_32 hB hz1 hk1 hS => ?_)
            have hP : va_P D vwCl [(f, .inr (2, [.ref f_kinds, .ref f_signs, .ref f_sizes, .ref f_places, .ref f_limits, .ref f_starts, .ref f_sorts, .int f_count, .int f_sections, .int f_fifth])), (f_kinds, .inl (cI, 255, .inl f_6)), (f_signs, .inl (cI, 255, .inl f_signsF)), (f_sizes, .inl (cI, 255, .inl f_sizesF)), (f_starts, .inl (cI, 4, .inl f_startsF))] H1 := hP.kept (fun k9 q9 h9 => hk1 q9.1 (vx_lt hP h9) (fun h => h))
            generalize H1 = H at hP hS ⊢
            have b_x_31 := ti_b x_31
            refine lv_iconst (v := 3) hx hb dX5_markMinutes_50 (by decide) ?_
            refine lv_icmp_eq (tgt := 57) hx hb dX5_markMinutes_51 (by decide) (fun c_33 => ?_) (fun c_33 => ?_)
            · have ic_33 : (x_31 : Int32).toInt = (3 : Int32).toInt := (fa_eq x_31 3).mp c_33
              exact hZ1 (K_57  _ _ _ hP hD hS hl)
            · have ic_33 : ¬ ((x_31 : Int32).toInt = (3 : Int32).toInt) := fun h9 => c_33 ((fa_eq x_31 3).mpr h9)
              refine lv_goto (tgt := 124) hx hb dX5_markMinutes_54 (by decide) ?_
              obtain ⟨x_34, ex_34⟩ : ∃ y : Int32, y = x_3 + 1 := ⟨_, rfl⟩
              have b_x_3 := ti_b x_3
              have tx_34 := ti_add ex_34
              refine lv_iinc (v := x_34) (lv' := [(4, .int x_34), (5, .int z_12), (3, .int x_4), (2, .int x_5), (0, .ref f), (1, .int p1)]) hx hb dX5_markMinutes_124 hl (k := 1) rfl (by rw [ex_34]; rfl) (by decide) rfl (fun ls hl => ?_)
              refine lv_goto (tgt := 11) hx hb dX5_markMinutes_127 (by decide) ?_
              exact hZ1 (ih_11 x_34 x_4 x_5 f_6 _ _ _ (by omega) hP hD hS (lv_sub hl [0, 2, 3, 4, 5] rfl))
        refine lv_icmp_ne (tgt := 36) hx hb dX5_markMinutes_29 (by decide) (fun c_35 => ?_) (fun c_35 => ?_)
        · have ic_35 : ¬ ((x_10 : Int32).toInt = (13 : Int32).toInt) := fun h9 => c_35 ((fa_eq x_10 13).mpr h9)
          refine lv_iconst (v := 0) hx hb dX5_markMinutes_36 (by decide) ?_
          exact hZ1 (K_37 0 _ _ _ (by omega) hP hD hS hl)
        · have ic_35 : (x_10 : Int32).toInt = (13 : Int32).toInt := (fa_eq x_10 13).mp c_35
          refine lv_iconst (v := 1) hx hb dX5_markMinutes_32 (by decide) ?_
          refine lv_goto (tgt := 37) hx hb dX5_markMinutes_33 (by decide) ?_
          exact hZ1 (K_37 1 _ _ _ (by omega) hP hD hS hl)
  exact hZ1 (L_11 (((2147483647 - (x_1 : Int32).toInt).toNat) + 1) x_1 (-1) (-1) f_kindsF _ _ _ (by omega) hP hD hS hl)

def ow_X5_isZero : List Cond := [Cond.methodLink RX5 53 yX2_kindIn, Cond.instanceMethod yX2_kindIn, Cond.selects RX2 yX2_kindIn yX2_kindIn, Cond.initialized RX2, Cond.methodLink RX5 65 yX2_sign, Cond.instanceMethod yX2_sign, Cond.selects RX2 yX2_sign yX2_sign]
def pw_X5_isZero : List Cond := Cond.code yX5_isZero cX5_isZero 3 (some .boolean) :: (ow_X5_isZero ++ (pw_X2_kindIn ++ (pw_X2_sign)))
set_option maxRecDepth 20000 in
theorem mo_X5_isZero : ∀ w ∈ ow_X5_isZero, w ∈ lw_tbl := by decide +kernel
set_option maxRecDepth 20000 in
theorem mc_X5_isZero : Cond.code yX5_isZero cX5_isZero 3 (some .boolean) ∈ lw_tbl := by decide +kernel
theorem m_X5_isZero : ∀ w ∈ pw_X5_isZero, w ∈ lw_tbl := List.forall_mem_cons.mpr ⟨mc_X5_isZero, (List.forall_mem_append.mpr ⟨mo_X5_isZero, (List.forall_mem_append.mpr ⟨m_X2_kindIn, m_X2_sign⟩)⟩)⟩
theorem ko_X5_isZero : ∀ w ∈ ow_X5_isZero, goodWord w = true := by decide +kernel
theorem k_X5_isZero : pw_X5_isZero.all goodWord = true := List.all_eq_true.mpr (List.forall_mem_cons.mpr ⟨by decide +kernel, (List.forall_mem_append.mpr ⟨ko_X5_isZero, (List.forall_mem_append.mpr ⟨(List.all_eq_true.mp k_X2_kindIn), (List.all_eq_true.mp k_X2_sign)⟩)⟩)⟩)
set_option maxHeartbeats 400000 in
set_option maxRecDepth 100000 in
theorem c_X5_isZero (l : Launch) (D : va_G) (cI cD cJ : ClassId) (sz : Nat) (f : Nat) (f_kinds : Nat) (f_signs : Nat) (f_sizes : Nat) (f_places : Nat) (f_limits : Nat) (f_starts : Nat) (f_sorts : Nat) (f_count : Int32) (f_sections : Int32) (f_fifth : Int32) (f_kindsF : Nat → Int32) (f_signsF : Nat → Int32) (f_startsF : Nat → Int32) (p1 : Int32) (p2 : Int32) (hs9 : p1.toInt ≤ 4) (iv_f_count : 0 ≤ (f_count : Int32).toInt ∧ (f_count : Int32).toInt ≤ 255) (iv_f_sections : 0 ≤ (f_sections : Int32).toInt ∧ (f_sections : Int32).toInt ≤ 4) (iv_f_startsF : ∀ k9 : Nat, k9 < 4 → 0 ≤ (f_startsF k9).toInt ∧ (f_startsF k9).toInt ≤ 255) : Met l yX5_isZero pw_X5_isZero ({ frames := 2, cells := 0, slots := 0, locals := 43 }) (va_Pc [.ref f, .int p1, .int p2] (fun U => va_P D vwCl [(f, .inr (2, [.ref f_kinds, .ref f_signs, .ref f_sizes, .ref f_places, .ref f_limits, .ref f_starts, .ref f_sorts, .int f_count, .int f_sections, .int f_fifth])), (f_kinds, .inl (cI, 255, .inl f_kindsF)), (f_signs, .inl (cI, 255, .inl f_signsF)), (f_starts, .inl (cI, 4, .inl f_startsF))] U.heap ∧ va_K D vwCl (ty3 cI cD cJ) U)) (va_Qi (fun (r : Int32) (u : Unit) => (r.toInt = 0 ∨ r.toInt = 1)) (fun _ _ => True) (fun _ => False)) 0 0 (fun _ => False) := by
  refine Met.ofW (cc := cX5_isZero) (maxL := 3) (ret := (some .boolean)) (by decide +kernel) rfl ?_
  intro p e s m args below meth c s₁ B hml hv
  obtain ⟨rfl, hP, hK⟩ := hv
  have hx := B.exec
  have hb := B.bytes
  have hr := B.returns
  have hts := atoms_spec (ws := pw_X5_isZero) B.pre
  have hown : s.vm.findClass RX5 = some m.cls := findClass_of_methodNamed B.named
  have hlocks := B.notSynchronized
  have hS : va_S (fun _ => False) s.heap s.heap [] := va_S.rf
  have hw : ∀ (k : Nat) (w : Cond), ow_X5_isZero[k]? = some w → w.before _ s = true := fun k w h => hts w (List.mem_cons_of_mem _ (have h9 := List.mem_of_getElem? h; List.mem_append_left _ h9))
  have i_X2_kindIn : ∀ w ∈ pw_X2_kindIn, w ∈ pw_X5_isZero := fun w h9 => List.mem_cons_of_mem _ (List.mem_append_right _ (List.mem_append_left _ h9))
  have i_X2_sign : ∀ w ∈ pw_X2_sign, w ∈ pw_X5_isZero := fun w h9 => List.mem_cons_of_mem _ (List.mem_append_right _ (List.mem_append_right _ (h9)))
  have n_0 : ((0 : Int32)).toInt = 0 := by decide
  have n_1 : ((1 : Int32)).toInt = 1 := by decide
  have n_4 : ((4 : Int32)).toInt = 4 := by decide
  have n_48 : ((48 : Int32)).toInt = 48 := by decide
  have hl := lv_entry ([.ref f, .int p1, .int p2]) (n := 3) (Nat.le_of_ble_eq_true rfl)
  rw [lg_entry_eq]
  generalize (lg_sl ([.ref f, .int p1, .int p2]) ++ List.replicate (3 - (lg_sl ([.ref f, .int p1, .int p2])).length) Slot.unset).toArray = ls at hl ⊢
  have hl : lv_has ls 3 [(0, .ref f), (1, .int p1), (2, .int p2)] := hl
  have b_p1 := ti_b p1
  have b_p2 := ti_b p2
  refine lv_aload_n hx hb dX5_isZero_0 rfl (lv_at hl 0 rfl) ?_
  refine lv_iload_n hx hb dX5_isZero_1 rfl (lv_at hl 1 rfl) ?_
  refine lv_iload_n hx hb dX5_isZero_2 rfl (lv_at hl 2 rfl) ?_
  have hPc := hP.sub (ws' := [(f, .inr (2, [.ref f_kinds, .ref f_signs, .ref f_sizes, .ref f_places, .ref f_limits, .ref f_starts, .ref f_sorts, .int f_count, .int f_sections, .int f_fifth])), (f_kinds, .inl (cI, 255, .inl f_kindsF)), (f_starts, .inl (cI, 4, .inl f_startsF))]) [0, 1, 3] rfl
  refine va_calli (va_runV (As := [.int p1, .int p2]) (rest := []) ⟨hx, hb, hml, hown, hts⟩ (c_X2_kindIn l D cI cD cJ s.heap.size f f_kinds f_signs f_sizes f_places f_limits f_starts f_sorts f_count f_sections f_fifth f_kindsF f_startsF p1 p2 (by omega) (by omega) (by omega) (by assumption)) (cwV 2 hts (goodIn_app (goodIn_r _ [1, 2, 3, 4] rfl (by decide +kernel)) (goodIn_sub i_X2_kindIn k_X2_kindIn)) rfl rfl rfl (by decide +kernel) ⟨Nat.le_of_ble_eq_true rfl, Nat.le_of_ble_eq_true rfl⟩) ⟨fun a U g mk q => by obtain ⟨q0, qP, qK⟩ := q; exact ⟨q0, qP, va_K.moved (u := U) (U := U.calling g mk a) (Vm.Alike.refl U.vm) qK⟩, va_recv hK hPc (ci := 2) (q0 := 0) rfl rfl, fun U hU hW => ⟨rfl, by rw [hU]; exact hPc, va_K.moved hW.alike hK⟩⟩ rfl rfl hl.1 rfl (lv_room (Nat.le_of_ble_eq_true rfl)) dX5_isZero_3 ⟨Nat.le_of_ble_eq_true rfl, Nat.le_of_ble_eq_true rfl⟩) hS (fun q _ h => h.elim) (fun q h => h.elim) (fun x_1 u t H1 locs ht hvm w_2 hB hz1 hk1 hS => ?_)
  have hP : va_P D vwCl [(f, .inr (2, [.ref f_kinds, .ref f_signs, .ref f_sizes, .ref f_places, .ref f_limits, .ref f_starts, .ref f_sorts, .int f_count, .int f_sections, .int f_fifth])), (f_kinds, .inl (cI, 255, .inl f_kindsF)), (f_signs, .inl (cI, 255, .inl f_signsF)), (f_starts, .inl (cI, 4, .inl f_startsF))] H1 := hP.kept (fun k9 q9 h9 => hk1 q9.1 (vx_lt hP h9) (fun h => h))
  generalize H1 = H at hP hS ⊢
  have b_x_1 := ti_b x_1
  refine lv_iconst (v := 4) hx hb dX5_isZero_6 (by decide) ?_
  refine lv_icmp_ne (tgt := 24) hx hb dX5_isZero_7 (by decide) (fun c_3 => ?_) (fun c_3 => ?_)
  · have ic_3 : ¬ ((x_1 : Int32).toInt = (4 : Int32).toInt) := fun h9 => c_3 ((fa_eq x_1 4).mpr h9)
    refine lv_iconst (v := 0) hx hb dX5_isZero_24 (by decide) ?_
    exact W.zret (v := 0) hx hb hr rfl (fun t ht hW => ⟨⟨0, (), rfl, (by (try dsimp only); first | omega | assumption), trivial⟩, hS.F ht⟩) hS.2.2 dX5_isZero_25
  · have ic_3 : (x_1 : Int32).toInt = (4 : Int32).toInt := (fa_eq x_1 4).mp c_3
    refine lv_aload_n hx hb dX5_isZero_10 rfl (lv_at hl 0 rfl) ?_
    refine lv_iload_n hx hb dX5_isZero_11 rfl (lv_at hl 2 rfl) ?_
    have hPc := hP.sub (ws' := [(f, .inr (2, [.ref f_kinds, .ref f_signs, .ref f_sizes, .ref f_places, .ref f_limits, .ref f_starts, .ref f_sorts, .int f_count, .int f_sections, .int f_fifth])), (f_signs, .inl (cI, 255, .inl f_signsF))]) [0, 2] rfl
    refine va_calli (va_runV (As := [.int p2]) (rest := []) ⟨hx, hb, hml, hown, hts⟩ (c_X2_sign l D cI cD cJ H.size f f_kinds f_signs f_sizes f_places f_limits f_starts f_sorts f_count f_sections f_fifth f_signsF p2 (by omega) (by omega)) (cwV 1 hts (goodIn_app (goodIn_r _ [5, 6, 7, 4] rfl (by decide +kernel)) (goodIn_sub i_X2_sign k_X2_sign)) rfl rfl rfl (by decide +kernel) ⟨Nat.le_of_ble_eq_true rfl, Nat.le_of_ble_eq_true rfl⟩) ⟨fun a U g mk q => by obtain ⟨q0, qP, qK⟩ := q; exact ⟨q0, qP, va_K.moved (u := U) (U := U.calling g mk a) (Vm.Alike.refl U.vm) qK⟩, va_recv hK hPc (ci := 2) (q0 := 0) rfl rfl, fun U hU hW => ⟨rfl, by rw [hU]; exact hPc, va_K.moved hW.alike hK⟩⟩ rfl rfl hl.1 rfl (lv_room (Nat.le_of_ble_eq_true rfl)) dX5_isZero_12 ⟨Nat.le_of_ble_eq_true rfl, Nat.le_of_ble_eq_true rfl⟩) hS (fun q _ h => h.elim) (fun q h => h.elim) (fun x_4 u t H1 locs ht hvm w_5 hB hz1 hk1 hS => ?_)
    have hP : va_P D vwCl [(f, .inr (2, [.ref f_kinds, .ref f_signs, .ref f_sizes, .ref f_places, .ref f_limits, .ref f_starts, .ref f_sorts, .int f_count, .int f_sections, .int f_fifth])), (f_kinds, .inl (cI, 255, .inl f_kindsF)), (f_signs, .inl (cI, 255, .inl f_signsF)), (f_starts, .inl (cI, 4, .inl f_startsF))] H1 := hP.kept (fun k9 q9 h9 => hk1 q9.1 (vx_lt hP h9) (fun h => h))
    generalize H1 = H at hP hS ⊢
    have b_x_4 := ti_b x_4
    refine lv_bipush (v := 48) hx hb dX5_isZero_15 (by decide) ?_
    refine lv_icmp_ne (tgt := 24) hx hb dX5_isZero_17 (by decide) (fun c_6 => ?_) (fun c_6 => ?_)
    · have ic_6 : ¬ ((x_4 : Int32).toInt = (48 : Int32).toInt) := fun h9 => c_6 ((fa_eq x_4 48).mpr h9)
      refine lv_iconst (v := 0) hx hb dX5_isZero_24 (by decide) ?_
      exact W.zret (v := 0) hx hb hr rfl (fun t ht hW => ⟨⟨0, (), rfl, (by (try dsimp only); first | omega | assumption), trivial⟩, hS.F ht⟩) hS.2.2 dX5_isZero_25
    · have ic_6 : (x_4 : Int32).toInt = (48 : Int32).toInt := (fa_eq x_4 48).mp c_6
      refine lv_iconst (v := 1) hx hb dX5_isZero_20 (by decide) ?_
      refine lv_goto (tgt := 25) hx hb dX5_isZero_21 (by decide) ?_
      exact W.zret (v := 1) hx hb hr rfl (fun t ht hW => ⟨⟨1, (), rfl, (by (try dsimp only); first | omega | assumption), trivial⟩, hS.F ht⟩) hS.2.2 dX5_isZero_25

def ow_X5_markTenths : List Cond := [Cond.methodLink RX5 56 yX2_from, Cond.instanceMethod yX2_from, Cond.selects RX2 yX2_from yX2_from, Cond.initialized RX2, Cond.methodLink RX5 59 yX2_to, Cond.instanceMethod yX2_to, Cond.selects RX2 yX2_to yX2_to, Cond.methodLink RX5 53 yX2_kindIn, Cond.instanceMethod yX2_kindIn, Cond.selects RX2 yX2_kindIn yX2_kindIn, Cond.methodLink RX5 62 yX2_kind, Cond.instanceMethod yX2_kind, Cond.selects RX2 yX2_kind yX2_kind, Cond.methodLink RX5 74 yX5_isZero, Cond.static yX5_isZero, Cond.initialized RX5, Cond.methodLink RX5 68 yX2_setKind, Cond.instanceMethod yX2_setKind, Cond.selects RX2 yX2_setKind yX2_setKind, Cond.methodLink RX5 65 yX2_sign, Cond.instanceMethod yX2_sign, Cond.selects RX2 yX2_sign yX2_sign]
def pw_X5_markTenths : List Cond := Cond.code yX5_markTenths cX5_markTenths 6 none :: (ow_X5_markTenths ++ (pw_X2_from ++ (pw_X2_to ++ (pw_X2_kindIn ++ (pw_X2_kind ++ (pw_X5_isZero ++ (pw_X2_setKind ++ (pw_X2_sign))))))))
set_option maxRecDepth 20000 in
theorem mo_X5_markTenths : ∀ w ∈ ow_X5_markTenths, w ∈ lw_tbl := by decide +kernel
set_option maxRecDepth 20000 in
theorem mc_X5_markTenths : Cond.code yX5_markTenths cX5_markTenths 6 none ∈ lw_tbl := by decide +kernel
theorem m_X5_markTenths : ∀ w ∈ pw_X5_markTenths, w ∈ lw_tbl := List.forall_mem_cons.mpr ⟨mc_X5_markTenths, (List.forall_mem_append.mpr ⟨mo_X5_markTenths, (List.forall_mem_append.mpr ⟨m_X2_from, (List.forall_mem_append.mpr ⟨m_X2_to, (List.forall_mem_append.mpr ⟨m_X2_kindIn, (List.forall_mem_append.mpr ⟨m_X2_kind, (List.forall_mem_append.mpr ⟨m_X5_isZero, (List.forall_mem_append.mpr ⟨m_X2_setKind, m_X2_sign⟩)⟩)⟩)⟩)⟩)⟩)⟩)⟩
theorem ko_X5_markTenths : ∀ w ∈ ow_X5_markTenths, goodWord w = true := by decide +kernel
theorem k_X5_markTenths : pw_X5_markTenths.all goodWord = true := List.all_eq_true.mpr (List.forall_mem_cons.mpr ⟨by decide +kernel, (List.forall_mem_append.mpr ⟨ko_X5_markTenths, (List.forall_mem_append.mpr ⟨(List.all_eq_true.mp k_X2_from), (List.forall_mem_append.mpr ⟨(List.all_eq_true.mp k_X2_to), (List.forall_mem_append.mpr ⟨(List.all_eq_true.mp k_X2_kindIn), (List.forall_mem_append.mpr ⟨(List.all_eq_true.mp k_X2_kind), (List.forall_mem_append.mpr ⟨(List.all_eq_true.mp k_X5_isZero), (List.forall_mem_append.mpr ⟨(List.all_eq_true.mp k_X2_setKind), (List.all_eq_true.mp k_X2_sign)⟩)⟩)⟩)⟩)⟩)⟩)⟩)⟩)
set_option maxHeartbeats 400000 in
set_option maxRecDepth 100000 in
theorem c_X5_markTenths (l : Launch) (D : va_G) (cI cD cJ : ClassId) (sz : Nat) (f : Nat) (f_kinds : Nat) (f_signs : Nat) (f_sizes : Nat) (f_places : Nat) (f_limits : Nat) (f_starts : Nat) (f_sorts : Nat) (f_count : Int32) (f_sections : Int32) (f_fifth : Int32) (f_kindsF : Nat → Int32) (f_signsF : Nat → Int32) (f_startsF : Nat → Int32) (p1 : Int32) (hs9 : p1.toInt ≤ 4) (iv_f_count : 0 ≤ (f_count : Int32).toInt ∧ (f_count : Int32).toInt ≤ 255) (iv_f_sections : 0 ≤ (f_sections : Int32).toInt ∧ (f_sections : Int32).toInt ≤ 4) (iv_f_startsF : ∀ k9 : Nat, k9 < 4 → 0 ≤ (f_startsF k9).toInt ∧ (f_startsF k9).toInt ≤ 255) : Met l yX5_markTenths pw_X5_markTenths ({ frames := 3, cells := 0, slots := 0, locals := 65 }) (va_Pc [.ref f, .int p1] (fun U => U.heap.size = sz ∧ va_P D vwCl [(f, .inr (2, [.ref f_kinds, .ref f_signs, .ref f_sizes, .ref f_places, .ref f_limits, .ref f_starts, .ref f_sorts, .int f_count, .int f_sections, .int f_fifth])), (f_kinds, .inl (cI, 255, .inl f_kindsF)), (f_signs, .inl (cI, 255, .inl f_signsF)), (f_starts, .inl (cI, 4, .inl f_startsF))] U.heap ∧ va_K D vwCl (ty3 cI cD cJ) U ∧ va_D (fun _ => True) [(f, .inr (2, [.ref f_kinds, .ref f_signs, .ref f_sizes, .ref f_places, .ref f_limits, .ref f_starts, .ref f_sorts, .int f_count, .int f_sections, .int f_fifth])), (f_kinds, .inl (cI, 255, .inl f_kindsF)), (f_signs, .inl (cI, 255, .inl f_signsF)), (f_starts, .inl (cI, 4, .inl f_startsF))])) (va_Qv (fun (f_kindsF2 : (Nat → Int32)) => True) (fun (f_kindsF2 : (Nat → Int32)) (t : State) => va_P D vwCl [(f, .inr (2, [.ref f_kinds, .ref f_signs, .ref f_sizes, .ref f_places, .ref f_limits, .ref f_starts, .ref f_sorts, .int f_count, .int f_sections, .int f_fifth])), (f_kinds, .inl (cI, 255, .inl f_kindsF2)), (f_signs, .inl (cI, 255, .inl f_signsF)), (f_starts, .inl (cI, 4, .inl f_startsF))] t.heap ∧ va_K D vwCl (ty3 cI cD cJ) t ∧ va_D (va_A [(f, .inr (2, [.ref f_kinds, .ref f_signs, .ref f_sizes, .ref f_places, .ref f_limits, .ref f_starts, .ref f_sorts, .int f_count, .int f_sections, .int f_fifth])), (f_kinds, .inl (cI, 255, .inl f_kindsF)), (f_signs, .inl (cI, 255, .inl f_signsF)), (f_starts, .inl (cI, 4, .inl f_startsF))] sz) [(f, .inr (2, [.ref f_kinds, .ref f_signs, .ref f_sizes, .ref f_places, .ref f_limits, .ref f_starts, .ref f_sorts, .int f_count, .int f_sections, .int f_fifth])), (f_kinds, .inl (cI, 255, .inl f_kindsF2)), (f_signs, .inl (cI, 255, .inl f_signsF)), (f_starts, .inl (cI, 4, .inl f_startsF))]) (va_A [(f, .inr (2, [.ref f_kinds, .ref f_signs, .ref f_sizes, .ref f_places, .ref f_limits, .ref f_starts, .ref f_sorts, .int f_count, .int f_sections, .int f_fifth])), (f_kinds, .inl (cI, 255, .inl f_kindsF)), (f_signs, .inl (cI, 255, .inl f_signsF)), (f_starts, .inl (cI, 4, .inl f_startsF))] sz)) 0 0 (va_A [(f, .inr (2, [.ref f_kinds, .ref f_signs, .ref f_sizes, .ref f_places, .ref f_limits, .ref f_starts, .ref f_sorts, .int f_count, .int f_sections, .int f_fifth])), (f_kinds, .inl (cI, 255, .inl f_kindsF)), (f_signs, .inl (cI, 255, .inl f_signsF)), (f_starts, .inl (cI, 4, .inl f_startsF))] sz) := by
  refine Met.ofW (cc := cX5_markTenths) (maxL := 6) (ret := none) (by decide +kernel) rfl ?_
  intro p e s m args below meth c s₁ B hml hv
  obtain ⟨rfl, hsz, hP, hK, hD0⟩ := hv
  have hx := B.exec
  have hb := B.bytes
  have hr := B.returns
  have hts := atoms_spec (ws := pw_X5_markTenths) B.pre
  have hown : s.vm.findClass RX5 = some m.cls := findClass_of_methodNamed B.named
  have hlocks := B.notSynchronized
  subst hsz
  have hD := hD0.self (sz := s.heap.size)
  generalize hAe : va_A [(f, .inr (2, [.ref f_kinds, .ref f_signs, .ref f_sizes, .ref f_places, .ref f_limits, .ref f_starts, .ref f_sorts, .int f_count, .int f_sections, .int f_fifth])), (f_kinds, .inl (cI, 255, .inl f_kindsF)), (f_signs, .inl (cI, 255, .inl f_signsF)), (f_starts, .inl (cI, 4, .inl f_startsF))] s.heap.size = A at hD ⊢
  have hA : ∀ q : Nat, s.heap.size ≤ q → A q := fun q h => by rw [← hAe]; exact Or.inr h
  have hS : va_S A s.heap s.heap [] := va_S.rf
  have hw : ∀ (k : Nat) (w : Cond), ow_X5_markTenths[k]? = some w → w.before _ s = true := fun k w h => hts w (List.mem_cons_of_mem _ (have h9 := List.mem_of_getElem? h; List.mem_append_left _ h9))
  have i_X2_from : ∀ w ∈ pw_X2_from, w ∈ pw_X5_markTenths := fun w h9 => List.mem_cons_of_mem _ (List.mem_append_right _ (List.mem_append_left _ h9))
  have i_X2_to : ∀ w ∈ pw_X2_to, w ∈ pw_X5_markTenths := fun w h9 => List.mem_cons_of_mem _ (List.mem_append_right _ (List.mem_append_right _ (List.mem_append_left _ h9)))
  have i_X2_kindIn : ∀ w ∈ pw_X2_kindIn, w ∈ pw_X5_markTenths := fun w h9 => List.mem_cons_of_mem _ (List.mem_append_right _ (List.mem_append_right _ (List.mem_append_right _ (List.mem_append_left _ h9))))
  have i_X2_kind : ∀ w ∈ pw_X2_kind, w ∈ pw_X5_markTenths := fun w h9 => List.mem_cons_of_mem _ (List.mem_append_right _ (List.mem_append_right _ (List.mem_append_right _ (List.mem_append_right _ (List.mem_append_left _ h9)))))
  have i_X5_isZero : ∀ w ∈ pw_X5_isZero, w ∈ pw_X5_markTenths := fun w h9 => List.mem_cons_of_mem _ (List.mem_append_right _ (List.mem_append_right _ (List.mem_append_right _ (List.mem_append_right _ (List.mem_append_right _ (List.mem_append_left _ h9))))))
  have i_X2_setKind : ∀ w ∈ pw_X2_setKind, w ∈ pw_X5_markTenths := fun w h9 => List.mem_cons_of_mem _ (List.mem_append_right _ (List.mem_append_right _ (List.mem_append_right _ (List.mem_append_right _ (List.mem_append_right _ (List.mem_append_right _ (List.mem_append_left _ h9)))))))
  have i_X2_sign : ∀ w ∈ pw_X2_sign, w ∈ pw_X5_markTenths := fun w h9 => List.mem_cons_of_mem _ (List.mem_append_right _ (List.mem_append_right _ (List.mem_append_right _ (List.mem_append_right _ (List.mem_append_right _ (List.mem_append_right _ (List.mem_append_right _ (h9))))))))
  have n_0 : ((0 : Int32)).toInt = 0 := by decide
  have n_1 : ((1 : Int32)).toInt = 1 := by decide
  have n_115 : ((115 : Int32)).toInt = 115 := by decide
  have n_13 : ((13 : Int32)).toInt = 13 := by decide
  have n_15 : ((15 : Int32)).toInt = 15 := by decide
  have n_16 : ((16 : Int32)).toInt = 16 := by decide
  have n_3 : ((3 : Int32)).toInt = 3 := by decide
  have n_5 : ((5 : Int32)).toInt = 5 := by decide
  have hl := lv_entry ([.ref f, .int p1]) (n := 6) (Nat.le_of_ble_eq_true rfl)
  rw [lg_entry_eq]
  generalize (lg_sl ([.ref f, .int p1]) ++ List.replicate (6 - (lg_sl ([.ref f, .int p1])).length) Slot.unset).toArray = ls at hl ⊢
  have hl : lv_has ls 6 [(0, .ref f), (1, .int p1)] := hl
  have b_p1 := ti_b p1
  refine zz_cap (fun Z hZ1 hZ2 => ?_)
  refine lv_aload_n hx hb dX5_markTenths_0 rfl (lv_at hl 0 rfl) ?_
  refine lv_iload_n hx hb dX5_markTenths_1 rfl (lv_at hl 1 rfl) ?_
  have hPc := hP.sub (ws' := [(f, .inr (2, [.ref f_kinds, .ref f_signs, .ref f_sizes, .ref f_places, .ref f_limits, .ref f_starts, .ref f_sorts, .int f_count, .int f_sections, .int f_fifth])), (f_starts, .inl (cI, 4, .inl f_startsF))]) [0, 3] rfl
  refine va_calli (va_runV (As := [.int p1]) (rest := []) ⟨hx, hb, hml, hown, hts⟩ (c_X2_from l D cI cD cJ s.heap.size f f_kinds f_signs f_sizes f_places f_limits f_starts f_sorts f_count f_sections f_fifth f_startsF p1 (by omega) (by omega) (by assumption)) (cwV 1 hts (goodIn_app (goodIn_r _ [1, 2, 3, 4] rfl (by decide +kernel)) (goodIn_sub i_X2_from k_X2_from)) rfl rfl rfl (by decide +kernel) ⟨Nat.le_of_ble_eq_true rfl, Nat.le_of_ble_eq_true rfl⟩) ⟨fun a U g mk q => by obtain ⟨q0, qP, qK⟩ := q; exact ⟨q0, qP, va_K.moved (u := U) (U := U.calling g mk a) (Vm.Alike.refl U.vm) qK⟩, va_recv hK hPc (ci := 2) (q0 := 0) rfl rfl, fun U hU hW => ⟨rfl, by rw [hU]; exact hPc, va_K.moved hW.alike hK⟩⟩ rfl rfl hl.1 rfl (lv_room (Nat.le_of_ble_eq_true rfl)) dX5_markTenths_2 ⟨Nat.le_of_ble_eq_true rfl, Nat.le_of_ble_eq_true rfl⟩) hS (fun q _ h => h.elim) (fun q h => h.elim) (fun x_1 u t H1 locs ht hvm w_2 hB hz1 hk1 hS => ?_)
  have hP : va_P D vwCl [(f, .inr (2, [.ref f_kinds, .ref f_signs, .ref f_sizes, .ref f_places, .ref f_limits, .ref f_starts, .ref f_sorts, .int f_count, .int f_sections, .int f_fifth])), (f_kinds, .inl (cI, 255, .inl f_kindsF)), (f_signs, .inl (cI, 255, .inl f_signsF)), (f_starts, .inl (cI, 4, .inl f_startsF))] H1 := hP.kept (fun k9 q9 h9 => hk1 q9.1 (vx_lt hP h9) (fun h => h))
  generalize H1 = H at hP hS ⊢
  try dsimp only at w_2
  refine lv_istore_n (lv' := [(2, .int x_1), (0, .ref f), (1, .int p1)]) hx hb dX5_markTenths_5 rfl hl (by decide) rfl (fun ls hl => ?_)
  have L_6 : ∀ (N : Nat) (x_3 : Int32) (f_4 : Nat → Int32) (H : Heap) (locs : List Loc) (ls : Array Slot), ((2147483647 - (x_3 : Int32).toInt).toNat < N) → va_P D vwCl [(f, .inr (2, [.ref f_kinds, .ref f_signs, .ref f_sizes, .ref f_places, .ref f_limits, .ref f_starts, .ref f_sorts, .int f_count, .int f_sections, .int f_fifth])), (f_kinds, .inl (cI, 255, .inl f_4)), (f_signs, .inl (cI, 255, .inl f_signsF)), (f_starts, .inl (cI, 4, .inl f_startsF))] H → va_D A [(f, .inr (2, [.ref f_kinds, .ref f_signs, .ref f_sizes, .ref f_places, .ref f_limits, .ref f_starts, .ref f_sorts, .int f_count, .int f_sections, .int f_fifth])), (f_kinds, .inl (cI, 255, .inl f_4)), (f_signs, .inl (cI, 255, .inl f_signsF)), (f_starts, .inl (cI, 4, .inl f_startsF))] → va_S A s.heap H locs → lv_has ls 6 [(2, .int x_3), (0, .ref f), (1, .int p1)] → Z 0 0 H locs (F0 m 6 ls []) := by
    intro N
    induction N with
    | zero => intro _ _ _ _ _ hmu; exact absurd hmu (Nat.not_lt_zero _)
    | succ N ih_6 =>
      intro x_3 f_4 H locs ls  hmu hP hD hS hl
      refine hZ2 ?_
      refine lv_iload_n hx hb dX5_markTenths_6 rfl (lv_at hl 0 rfl) ?_
      refine lv_aload_n hx hb dX5_markTenths_7 rfl (lv_at hl 1 rfl) ?_
      refine lv_iload_n hx hb dX5_markTenths_8 rfl (lv_at hl 2 rfl) ?_
      have hPc := hP.sub (ws' := [(f, .inr (2, [.ref f_kinds, .ref f_signs, .ref f_sizes, .ref f_places, .ref f_limits, .ref f_starts, .ref f_sorts, .int f_count, .int f_sections, .int f_fifth])), (f_starts, .inl (cI, 4, .inl f_startsF))]) [0, 3] rfl
      refine va_calli (va_runV (As := [.int p1]) (rest := [.int x_3]) ⟨hx, hb, hml, hown, hts⟩ (c_X2_to l D cI cD cJ H.size f f_kinds f_signs f_sizes f_places f_limits f_starts f_sorts f_count f_sections f_fifth f_startsF p1 (by omega) (by omega) (by omega) (by assumption)) (cwV 1 hts (goodIn_app (goodIn_r _ [5, 6, 7, 4] rfl (by decide +kernel)) (goodIn_sub i_X2_to k_X2_to)) rfl rfl rfl (by decide +kernel) ⟨Nat.le_of_ble_eq_true rfl, Nat.le_of_ble_eq_true rfl⟩) ⟨fun a U g mk q => by obtain ⟨q0, qP, qK⟩ := q; exact ⟨q0, qP, va_K.moved (u := U) (U := U.calling g mk a) (Vm.Alike.refl U.vm) qK⟩, va_recv hK hPc (ci := 2) (q0 := 0) rfl rfl, fun U hU hW => ⟨rfl, by rw [hU]; exact hPc, va_K.moved hW.alike hK⟩⟩ rfl rfl hl.1 rfl (lv_room (Nat.le_of_ble_eq_true rfl)) dX5_markTenths_9 ⟨Nat.le_of_ble_eq_true rfl, Nat.le_of_ble_eq_true rfl⟩) hS (fun q _ h => h.elim) (fun q h => h.elim) (fun x_5 u t H1 locs ht hvm w_6 hB hz1 hk1 hS => ?_)
      have hP : va_P D vwCl [(f, .inr (2, [.ref f_kinds, .ref f_signs, .ref f_sizes, .ref f_places, .ref f_limits, .ref f_starts, .ref f_sorts, .int f_count, .int f_sections, .int f_fifth])), (f_kinds, .inl (cI, 255, .inl f_4)), (f_signs, .inl (cI, 255, .inl f_signsF)), (f_starts, .inl (cI, 4, .inl f_startsF))] H1 := hP.kept (fun k9 q9 h9 => hk1 q9.1 (vx_lt hP h9) (fun h => h))
      generalize H1 = H at hP hS ⊢
      try dsimp only at w_6
      refine lv_icmp_ge (tgt := 121) hx hb dX5_markTenths_12 (by decide) (fun c_7 => ?_) (fun c_7 => ?_)
      · have ic_7 : (x_5 : Int32).toInt ≤ (x_3 : Int32).toInt := (fa_le x_5 x_3).mp c_7
        have hP9 := hP.sub (ws' := [(f, .inr (2, [.ref f_kinds, .ref f_signs, .ref f_sizes, .ref f_places, .ref f_limits, .ref f_starts, .ref f_sorts, .int f_count, .int f_sections, .int f_fifth])), (f_kinds, .inl (cI, 255, .inl f_4)), (f_signs, .inl (cI, 255, .inl f_signsF)), (f_starts, .inl (cI, 4, .inl f_startsF))]) [0, 1, 2, 3] rfl
        have hD9 := hD.sub (ws' := [(f, .inr (2, [.ref f_kinds, .ref f_signs, .ref f_sizes, .ref f_places, .ref f_limits, .ref f_starts, .ref f_sorts, .int f_count, .int f_sections, .int f_fifth])), (f_kinds, .inl (cI, 255, .inl f_4)), (f_signs, .inl (cI, 255, .inl f_signsF)), (f_starts, .inl (cI, 4, .inl f_startsF))]) [0, 1, 2, 3] (by decide) rfl
        exact W.vret hx hb hr (fun t ht hW => ⟨⟨(f_4), rfl, trivial, by rw [ht]; exact hP9, va_K.moved hW.alike hK, hD9⟩, hS.F ht⟩) hS.2.2 dX5_markTenths_121
      · have ic_7 : ¬ ((x_5 : Int32).toInt ≤ (x_3 : Int32).toInt) := fun h9 => c_7 ((fa_le x_5 x_3).mpr h9)
        refine lv_aload_n hx hb dX5_markTenths_15 rfl (lv_at hl 1 rfl) ?_
        refine lv_iload_n hx hb dX5_markTenths_16 rfl (lv_at hl 2 rfl) ?_
        refine lv_iload_n hx hb dX5_markTenths_17 rfl (lv_at hl 0 rfl) ?_
        refine lv_iconst (v := 1) hx hb dX5_markTenths_18 (by decide) ?_
        refine lv_isub hx hb dX5_markTenths_19 ?_
        refine lv_topi (fun x_8 ex_8 => ?_)
        have b_x_3 := ti_b x_3
        have tx_8 := ti_sub ex_8
        have hPc := hP.sub (ws' := [(f, .inr (2, [.ref f_kinds, .ref f_signs, .ref f_sizes, .ref f_places, .ref f_limits, .ref f_starts, .ref f_sorts, .int f_count, .int f_sections, .int f_fifth])), (f_kinds, .inl (cI, 255, .inl f_4)), (f_starts, .inl (cI, 4, .inl f_startsF))]) [0, 1, 3] rfl
        refine va_calli (va_runV (As := [.int p1, .int x_8]) (rest := []) ⟨hx, hb, hml, hown, hts⟩ (c_X2_kindIn l D cI cD cJ H.size f f_kinds f_signs f_sizes f_places f_limits f_starts f_sorts f_count f_sections f_fifth f_4 f_startsF p1 x_8 (by omega) (by omega) (by omega) (by assumption)) (cwV 2 hts (goodIn_app (goodIn_r _ [8, 9, 10, 4] rfl (by decide +kernel)) (goodIn_sub i_X2_kindIn k_X2_kindIn)) rfl rfl rfl (by decide +kernel) ⟨Nat.le_of_ble_eq_true rfl, Nat.le_of_ble_eq_true rfl⟩) ⟨fun a U g mk q => by obtain ⟨q0, qP, qK⟩ := q; exact ⟨q0, qP, va_K.moved (u := U) (U := U.calling g mk a) (Vm.Alike.refl U.vm) qK⟩, va_recv hK hPc (ci := 2) (q0 := 0) rfl rfl, fun U hU hW => ⟨rfl, by rw [hU]; exact hPc, va_K.moved hW.alike hK⟩⟩ rfl rfl hl.1 rfl (lv_room (Nat.le_of_ble_eq_true rfl)) dX5_markTenths_20 ⟨Nat.le_of_ble_eq_true rfl, Nat.le_of_ble_eq_true rfl⟩) hS (fun q _ h => h.elim) (fun q h => h.elim) (fun x_9 u t H1 locs ht hvm w_10 hB hz1 hk1 hS => ?_)
        have hP : va_P D vwCl [(f, .inr (2, [.ref f_kinds, .ref f_signs, .ref f_sizes, .ref f_places, .ref f_limits, .ref f_starts, .ref f_sorts, .int f_count, .int f_sections, .int f_fifth])), (f_kinds, .inl (cI, 255, .inl f_4)), (f_signs, .inl (cI, 255, .inl f_signsF)), (f_starts, .inl (cI, 4, .inl f_startsF))] H1 := hP.kept (fun k9 q9 h9 => hk1 q9.1 (vx_lt hP h9) (fun h => h))
        generalize H1 = H at hP hS ⊢
        have b_x_9 := ti_b x_9
        refine lv_istore_n (lv' := [(3, .int x_9), (2, .int x_3), (0, .ref f), (1, .int p1)]) hx hb dX5_markTenths_23 rfl hl (by decide) rfl (fun ls hl => ?_)
        refine lv_iload_n hx hb dX5_markTenths_24 rfl (lv_at hl 0 rfl) ?_
        refine lv_bipush (v := 13) hx hb dX5_markTenths_25 (by decide) ?_
        have K_52 : ∀ (z_11 : Int32) (H : Heap) (locs : List Loc) (ls : Array Slot), ((z_11 : Int32).toInt = 0 ∨ (z_11 : Int32).toInt = 1) → va_P D vwCl [(f, .inr (2, [.ref f_kinds, .ref f_signs, .ref f_sizes, .ref f_places, .ref f_limits, .ref f_starts, .ref f_sorts, .int f_count, .int f_sections, .int f_fifth])), (f_kinds, .inl (cI, 255, .inl f_4)), (f_signs, .inl (cI, 255, .inl f_signsF)), (f_starts, .inl (cI, 4, .inl f_startsF))] H → va_D A [(f, .inr (2, [.ref f_kinds, .ref f_signs, .ref f_sizes, .ref f_places, .ref f_limits, .ref f_starts, .ref f_sorts, .int f_count, .int f_sections, .int f_fifth])), (f_kinds, .inl (cI, 255, .inl f_4)), (f_signs, .inl (cI, 255, .inl f_signsF)), (f_starts, .inl (cI, 4, .inl f_startsF))] → va_S A s.heap H locs → lv_has ls 6 [(2, .int x_3), (0, .ref f), (1, .int p1)] → Z 0 0 H locs (F0 m 52 ls [.int z_11]) := by
          intro z_11 H locs ls g52_0 hP hD hS hl
          refine hZ2 ?_
          refine lv_istore (lv' := [(4, .int z_11), (2, .int x_3), (0, .ref f), (1, .int p1)]) hx hb dX5_markTenths_52 hl (by decide) rfl (fun ls hl => ?_)
          refine lv_aload_n hx hb dX5_markTenths_54 rfl (lv_at hl 2 rfl) ?_
          refine lv_iload_n hx hb dX5_markTenths_55 rfl (lv_at hl 1 rfl) ?_
          have hPc := hP.sub (ws' := [(f, .inr (2, [.ref f_kinds, .ref f_signs, .ref f_sizes, .ref f_places, .ref f_limits, .ref f_starts, .ref f_sorts, .int f_count, .int f_sections, .int f_fifth])), (f_kinds, .inl (cI, 255, .inl f_4))]) [0, 1] rfl
          refine va_calli (va_runV (As := [.int x_3]) (rest := []) ⟨hx, hb, hml, hown, hts⟩ (c_X2_kind l D cI cD cJ H.size f f_kinds f_signs f_sizes f_places f_limits f_starts f_sorts f_count f_sections f_fifth f_4 x_3 (by omega) (by omega)) (cwV 1 hts (goodIn_app (goodIn_r _ [11, 12, 13, 4] rfl (by decide +kernel)) (goodIn_sub i_X2_kind k_X2_kind)) rfl rfl rfl (by decide +kernel) ⟨Nat.le_of_ble_eq_true rfl, Nat.le_of_ble_eq_true rfl⟩) ⟨fun a U g mk q => by obtain ⟨q0, qP, qK⟩ := q; exact ⟨q0, qP, va_K.moved (u := U) (U := U.calling g mk a) (Vm.Alike.refl U.vm) qK⟩, va_recv hK hPc (ci := 2) (q0 := 0) rfl rfl, fun U hU hW => ⟨rfl, by rw [hU]; exact hPc, va_K.moved hW.alike hK⟩⟩ rfl rfl hl.1 rfl (lv_room (Nat.le_of_ble_eq_true rfl)) dX5_markTenths_56 ⟨Nat.le_of_ble_eq_true rfl, Nat.le_of_ble_eq_true rfl⟩) hS (fun q _ h => h.elim) (fun q h => h.elim) (fun x_12 u t H1 locs ht hvm w_13 hB hz1 hk1 hS => ?_)
          have hP : va_P D vwCl [(f, .inr (2, [.ref f_kinds, .ref f_signs, .ref f_sizes, .ref f_places, .ref f_limits, .ref f_starts, .ref f_sorts, .int f_count, .int f_sections, .int f_fifth])), (f_kinds, .inl (cI, 255, .inl f_4)), (f_signs, .inl (cI, 255, .inl f_signsF)), (f_starts, .inl (cI, 4, .inl f_startsF))] H1 := hP.kept (fun k9 q9 h9 => hk1 q9.1 (vx_lt hP h9) (fun h => h))
          generalize H1 = H at hP hS ⊢
          have b_x_12 := ti_b x_12
          refine lv_iconst (v := 5) hx hb dX5_markTenths_59 (by decide) ?_
          refine lv_icmp_ne (tgt := 115) hx hb dX5_markTenths_60 (by decide) (fun c_14 => ?_) (fun c_14 => ?_)
          · have ic_14 : ¬ ((x_12 : Int32).toInt = (5 : Int32).toInt) := fun h9 => c_14 ((fa_eq x_12 5).mpr h9)
            obtain ⟨x_15, ex_15⟩ : ∃ y : Int32, y = x_3 + 1 := ⟨_, rfl⟩
            have b_x_3 := ti_b x_3
            have tx_15 := ti_add ex_15
            refine lv_iinc (v := x_15) (lv' := [(2, .int x_15), (4, .int z_11), (0, .ref f), (1, .int p1)]) hx hb dX5_markTenths_115 hl (k := 1) rfl (by rw [ex_15]; rfl) (by decide) rfl (fun ls hl => ?_)
            refine lv_goto (tgt := 6) hx hb dX5_markTenths_118 (by decide) ?_
            exact hZ1 (ih_6 x_15 f_4 _ _ _ (by omega) hP hD hS (lv_sub hl [0, 2, 3] rfl))
          · have ic_14 : (x_12 : Int32).toInt = (5 : Int32).toInt := (fa_eq x_12 5).mp c_14
            refine lv_iload hx hb dX5_markTenths_63 (lv_at hl 0 rfl) ?_
            refine lv_if_ne (tgt := 71) hx hb dX5_markTenths_65 (by decide) (fun c_16 => ?_) (fun c_16 => ?_)
            · have ic_16 : ¬ ((z_11 : Int32).toInt = (0 : Int32).toInt) := fun h9 => c_16 ((fa_eq z_11 0).mpr h9)
              refine lv_iload_n hx hb dX5_markTenths_71 rfl (lv_at hl 1 rfl) ?_
              refine lv_iconst (v := 1) hx hb dX5_markTenths_72 (by decide) ?_
              refine lv_iadd hx hb dX5_markTenths_73 ?_
              refine lv_topi (fun x_17 ex_17 => ?_)
              have b_x_3 := ti_b x_3
              have tx_17 := ti_add ex_17
              refine lv_istore (lv' := [(5, .int x_17), (4, .int z_11), (2, .int x_3), (0, .ref f), (1, .int p1)]) hx hb dX5_markTenths_74 hl (by decide) rfl (fun ls hl => ?_)
              have L_76 : ∀ (N : Nat) (x_18 : Int32) (f_19 : Nat → Int32) (H : Heap) (locs : List Loc) (ls : Array Slot), ((2147483647 - (x_18 : Int32).toInt).toNat < N) → va_P D vwCl [(f, .inr (2, [.ref f_kinds, .ref f_signs, .ref f_sizes, .ref f_places, .ref f_limits, .ref f_starts, .ref f_sorts, .int f_count, .int f_sections, .int f_fifth])), (f_kinds, .inl (cI, 255, .inl f_19)), (f_signs, .inl (cI, 255, .inl f_signsF)), (f_starts, .inl (cI, 4, .inl f_startsF))] H → va_D A [(f, .inr (2, [.ref f_kinds, .ref f_signs, .ref f_sizes, .ref f_places, .ref f_limits, .ref f_starts, .ref f_sorts, .int f_count, .int f_sections, .int f_fifth])), (f_kinds, .inl (cI, 255, .inl f_19)), (f_signs, .inl (cI, 255, .inl f_signsF)), (f_starts, .inl (cI, 4, .inl f_startsF))] → va_S A s.heap H locs → lv_has ls 6 [(5, .int x_18), (2, .int x_3), (0, .ref f), (1, .int p1)] → Z 0 0 H locs (F0 m 76 ls []) := by
                intro N
                induction N with
                | zero => intro _ _ _ _ _ hmu; exact absurd hmu (Nat.not_lt_zero _)
                | succ N ih_76 =>
                  intro x_18 f_19 H locs ls  hmu hP hD hS hl
                  refine hZ2 ?_
                  refine lv_iload hx hb dX5_markTenths_76 (lv_at hl 0 rfl) ?_
                  refine lv_iload_n hx hb dX5_markTenths_78 rfl (lv_at hl 1 rfl) ?_
                  refine lv_iconst (v := 3) hx hb dX5_markTenths_79 (by decide) ?_
                  refine lv_iadd hx hb dX5_markTenths_80 ?_
                  refine lv_topi (fun x_20 ex_20 => ?_)
                  have b_x_3 := ti_b x_3
                  have tx_20 := ti_add ex_20
                  refine lv_icmp_gt (tgt := 115) hx hb dX5_markTenths_81 (by decide) (fun c_21 => ?_) (fun c_21 => ?_)
                  · have ic_21 : (x_20 : Int32).toInt < (x_18 : Int32).toInt := (fa_lt x_20 x_18).mp c_21
                    obtain ⟨x_22, ex_22⟩ : ∃ y : Int32, y = x_3 + 1 := ⟨_, rfl⟩
                    have b_x_3 := ti_b x_3
                    have tx_22 := ti_add ex_22
                    refine lv_iinc (v := x_22) (lv' := [(2, .int x_22), (5, .int x_18), (0, .ref f), (1, .int p1)]) hx hb dX5_markTenths_115 hl (k := 1) rfl (by rw [ex_22]; rfl) (by decide) rfl (fun ls hl => ?_)
                    refine lv_goto (tgt := 6) hx hb dX5_markTenths_118 (by decide) ?_
                    exact hZ1 (ih_6 x_22 f_19 _ _ _ (by omega) hP hD hS (lv_sub hl [0, 2, 3] rfl))
                  · have ic_21 : ¬ ((x_20 : Int32).toInt < (x_18 : Int32).toInt) := fun h9 => c_21 ((fa_lt x_20 x_18).mpr h9)
                    refine lv_aload_n hx hb dX5_markTenths_84 rfl (lv_at hl 2 rfl) ?_
                    refine lv_iload_n hx hb dX5_markTenths_85 rfl (lv_at hl 3 rfl) ?_
                    refine lv_iload hx hb dX5_markTenths_86 (lv_at hl 0 rfl) ?_
                    have hPc := hP.sub (ws' := [(f, .inr (2, [.ref f_kinds, .ref f_signs, .ref f_sizes, .ref f_places, .ref f_limits, .ref f_starts, .ref f_sorts, .int f_count, .int f_sections, .int f_fifth])), (f_kinds, .inl (cI, 255, .inl f_19)), (f_signs, .inl (cI, 255, .inl f_signsF)), (f_starts, .inl (cI, 4, .inl f_startsF))]) [0, 1, 2, 3] rfl
                    refine va_calli (va_runS (As := [.ref f, .int p1, .int x_18]) (rest := []) ⟨hx, hb, hml, hown, hts⟩ (c_X5_isZero l D cI cD cJ H.size f f_kinds f_signs f_sizes f_places f_limits f_starts f_sorts f_count f_sections f_fifth f_19 f_signsF f_startsF p1 x_18 (by omega) (by omega) (by omega) (by assumption)) (va_cwS 3 hts (goodIn_app (goodIn_r _ [14, 15, 16] rfl (by decide +kernel)) (goodIn_sub i_X5_isZero k_X5_isZero)) rfl rfl rfl (by decide +kernel) ⟨Nat.le_of_ble_eq_true rfl, Nat.le_of_ble_eq_true rfl⟩) ⟨fun a U g mk q => by obtain ⟨q0, qP, qK⟩ := q; exact ⟨q0, qP, va_K.moved (u := U) (U := U.calling g mk a) (Vm.Alike.refl U.vm) qK⟩, fun U hU hW => ⟨rfl, by rw [hU]; exact hPc, va_K.moved hW.alike hK⟩⟩ rfl rfl hl.1 rfl (lv_room (Nat.le_of_ble_eq_true rfl)) dX5_markTenths_88 ⟨Nat.le_of_ble_eq_true rfl, Nat.le_of_ble_eq_true rfl⟩) hS (fun q _ h => h.elim) (fun q h => h.elim) (fun x_23 u t H1 locs ht hvm w_24 hB hz1 hk1 hS => ?_)
                    have hP : va_P D vwCl [(f, .inr (2, [.ref f_kinds, .ref f_signs, .ref f_sizes, .ref f_places, .ref f_limits, .ref f_starts, .ref f_sorts, .int f_count, .int f_sections, .int f_fifth])), (f_kinds, .inl (cI, 255, .inl f_19)), (f_signs, .inl (cI, 255, .inl f_signsF)), (f_starts, .inl (cI, 4, .inl f_startsF))] H1 := hP.kept (fun k9 q9 h9 => hk1 q9.1 (vx_lt hP h9) (fun h => h))
                    generalize H1 = H at hP hS ⊢
                    try dsimp only at w_24
                    have b_x_23 := ti_b x_23
                    refine lv_if_eq (tgt := 115) hx hb dX5_markTenths_91 (by decide) (fun c_25 => ?_) (fun c_25 => ?_)
                    · have ic_25 : (x_23 : Int32).toInt = (0 : Int32).toInt := (fa_eq x_23 0).mp c_25
                      obtain ⟨x_26, ex_26⟩ : ∃ y : Int32, y = x_3 + 1 := ⟨_, rfl⟩
                      have b_x_3 := ti_b x_3
                      have tx_26 := ti_add ex_26
                      refine lv_iinc (v := x_26) (lv' := [(2, .int x_26), (5, .int x_18), (0, .ref f), (1, .int p1)]) hx hb dX5_markTenths_115 hl (k := 1) rfl (by rw [ex_26]; rfl) (by decide) rfl (fun ls hl => ?_)
                      refine lv_goto (tgt := 6) hx hb dX5_markTenths_118 (by decide) ?_
                      exact hZ1 (ih_6 x_26 f_19 _ _ _ (by omega) hP hD hS (lv_sub hl [0, 2, 3] rfl))
                    · have ic_25 : ¬ ((x_23 : Int32).toInt = (0 : Int32).toInt) := fun h9 => c_25 ((fa_eq x_23 0).mpr h9)
                      refine lv_aload_n hx hb dX5_markTenths_94 rfl (lv_at hl 2 rfl) ?_
                      refine lv_iload_n hx hb dX5_markTenths_95 rfl (lv_at hl 1 rfl) ?_
                      refine lv_bipush (v := 15) hx hb dX5_markTenths_96 (by decide) ?_
                      have hPc := hP.sub (ws' := [(f, .inr (2, [.ref f_kinds, .ref f_signs, .ref f_sizes, .ref f_places, .ref f_limits, .ref f_starts, .ref f_sorts, .int f_count, .int f_sections, .int f_fifth])), (f_kinds, .inl (cI, 255, .inl f_19))]) [0, 1] rfl
                      have hDc := hD.sub (ws' := [(f, .inr (2, [.ref f_kinds, .ref f_signs, .ref f_sizes, .ref f_places, .ref f_limits, .ref f_starts, .ref f_sorts, .int f_count, .int f_sections, .int f_fifth])), (f_kinds, .inl (cI, 255, .inl f_19))]) [0, 1] (by decide) rfl
                      have hFc := va_free (wc := [(f, .inr (2, [.ref f_kinds, .ref f_signs, .ref f_sizes, .ref f_places, .ref f_limits, .ref f_starts, .ref f_sorts, .int f_count, .int f_sections, .int f_fifth])), (f_kinds, .inl (cI, 255, .inl f_19))]) hD hS hA [0, 1] rfl
                      refine va_callv (va_runV (As := [.int x_3, .int 15]) (rest := []) ⟨hx, hb, hml, hown, hts⟩ (c_X2_setKind l D cI cD cJ H.size f f_kinds f_signs f_sizes f_places f_limits f_starts f_sorts f_count f_sections f_fifth f_19 x_3 15 (by omega) (by omega)) (cwV 2 hts (goodIn_app (goodIn_r _ [17, 18, 19, 4] rfl (by decide +kernel)) (goodIn_sub i_X2_setKind k_X2_setKind)) rfl rfl rfl (by decide +kernel) ⟨Nat.le_of_ble_eq_true rfl, Nat.le_of_ble_eq_true rfl⟩) ⟨fun a U g mk q => by obtain ⟨q0, q1, qP, qK, qD⟩ := q; exact ⟨q0, q1, qP, va_K.moved (u := U) (U := U.calling g mk a) (Vm.Alike.refl U.vm) qK, qD⟩, va_recv hK hPc (ci := 2) (q0 := 0) rfl rfl, fun U hU hW => ⟨rfl, by rw [hU], by rw [hU]; exact hPc, va_K.moved hW.alike hK, hDc.weaken (fun _ _ _ _ => trivial)⟩⟩ rfl rfl hl.1 rfl (lv_room (Nat.le_of_ble_eq_true rfl)) dX5_markTenths_98 ⟨Nat.le_of_ble_eq_true rfl, Nat.le_of_ble_eq_true rfl⟩) hS (fun q _ h => hFc q h) hFc (fun u t H1 locs ht hvm w_27 hB hz1 hk1 hS => ?_)
                      generalize u = u_28 at w_27 hB
                      obtain ⟨hP1, hK1, hD1⟩ := hB
                      rw [ht] at hP1
                      obtain ⟨hP, hD⟩ := va_join (wr := [(f_signs, .inl (cI, 255, .inl f_signsF)), (f_starts, .inl (cI, 4, .inl f_startsF))]) (w1 := [(f, .inr (2, [.ref f_kinds, .ref f_signs, .ref f_sizes, .ref f_places, .ref f_limits, .ref f_starts, .ref f_sorts, .int f_count, .int f_sections, .int f_fifth])), (f_kinds, .inl (cI, 255, .inl u_28))]) hP hD [0, 1] [2, 3] rfl rfl (by decide) (by decide) hk1 hFc hP1 hD1
                      generalize H1 = H at hP hS ⊢
                      have hP : va_P D vwCl [(f_signs, .inl (cI, 255, .inl f_signsF)), (f_starts, .inl (cI, 4, .inl f_startsF)), (f, .inr (2, [.ref f_kinds, .ref f_signs, .ref f_sizes, .ref f_places, .ref f_limits, .ref f_starts, .ref f_sorts, .int f_count, .int f_sections, .int f_fifth])), (f_kinds, .inl (cI, 255, .inl u_28))] H := hP
                      have hD : va_D A [(f_signs, .inl (cI, 255, .inl f_signsF)), (f_starts, .inl (cI, 4, .inl f_startsF)), (f, .inr (2, [.ref f_kinds, .ref f_signs, .ref f_sizes, .ref f_places, .ref f_limits, .ref f_starts, .ref f_sorts, .int f_count, .int f_sections, .int f_fifth])), (f_kinds, .inl (cI, 255, .inl u_28))] := hD
                      refine lv_aload_n hx hb dX5_markTenths_101 rfl (lv_at hl 2 rfl) ?_
                      refine lv_iload hx hb dX5_markTenths_102 (lv_at hl 0 rfl) ?_
                      refine lv_bipush (v := 16) hx hb dX5_markTenths_104 (by decide) ?_
                      have hPc := hP.sub (ws' := [(f, .inr (2, [.ref f_kinds, .ref f_signs, .ref f_sizes, .ref f_places, .ref f_limits, .ref f_starts, .ref f_sorts, .int f_count, .int f_sections, .int f_fifth])), (f_kinds, .inl (cI, 255, .inl u_28))]) [2, 3] rfl
                      have hDc := hD.sub (ws' := [(f, .inr (2, [.ref f_kinds, .ref f_signs, .ref f_sizes, .ref f_places, .ref f_limits, .ref f_starts, .ref f_sorts, .int f_count, .int f_sections, .int f_fifth])), (f_kinds, .inl (cI, 255, .inl u_28))]) [2, 3] (by decide) rfl
                      have hFc := va_free (wc := [(f, .inr (2, [.ref f_kinds, .ref f_signs, .ref f_sizes, .ref f_places, .ref f_limits, .ref f_starts, .ref f_sorts, .int f_count, .int f_sections, .int f_fifth])), (f_kinds, .inl (cI, 255, .inl u_28))]) hD hS hA [2, 3] rfl
                      refine va_callv (va_runV (As := [.int x_18, .int 16]) (rest := []) ⟨hx, hb, hml, hown, hts⟩ (c_X2_setKind l D cI cD cJ H.size f f_kinds f_signs f_sizes f_places f_limits f_starts f_sorts f_count f_sections f_fifth u_28 x_18 16 (by omega) (by omega)) (cwV 2 hts (goodIn_app (goodIn_r _ [17, 18, 19, 4] rfl (by decide +kernel)) (goodIn_sub i_X2_setKind k_X2_setKind)) rfl rfl rfl (by decide +kernel) ⟨Nat.le_of_ble_eq_true rfl, Nat.le_of_ble_eq_true rfl⟩) ⟨fun a U g mk q => by obtain ⟨q0, q1, qP, qK, qD⟩ := q; exact ⟨q0, q1, qP, va_K.moved (u := U) (U := U.calling g mk a) (Vm.Alike.refl U.vm) qK, qD⟩, va_recv hK hPc (ci := 2) (q0 := 0) rfl rfl, fun U hU hW => ⟨rfl, by rw [hU], by rw [hU]; exact hPc, va_K.moved hW.alike hK, hDc.weaken (fun _ _ _ _ => trivial)⟩⟩ rfl rfl hl.1 rfl (lv_room (Nat.le_of_ble_eq_true rfl)) dX5_markTenths_106 ⟨Nat.le_of_ble_eq_true rfl, Nat.le_of_ble_eq_true rfl⟩) hS (fun q _ h => hFc q h) hFc (fun u t H1 locs ht hvm w_29 hB hz1 hk1 hS => ?_)
                      generalize u = u_30 at w_29 hB
                      obtain ⟨hP1, hK1, hD1⟩ := hB
                      rw [ht] at hP1
                      obtain ⟨hP, hD⟩ := va_join (wr := [(f_signs, .inl (cI, 255, .inl f_signsF)), (f_starts, .inl (cI, 4, .inl f_startsF))]) (w1 := [(f, .inr (2, [.ref f_kinds, .ref f_signs, .ref f_sizes, .ref f_places, .ref f_limits, .ref f_starts, .ref f_sorts, .int f_count, .int f_sections, .int f_fifth])), (f_kinds, .inl (cI, 255, .inl u_30))]) hP hD [2, 3] [0, 1] rfl rfl (by decide) (by decide) hk1 hFc hP1 hD1
                      generalize H1 = H at hP hS ⊢
                      have hP : va_P D vwCl [(f_signs, .inl (cI, 255, .inl f_signsF)), (f_starts, .inl (cI, 4, .inl f_startsF)), (f, .inr (2, [.ref f_kinds, .ref f_signs, .ref f_sizes, .ref f_places, .ref f_limits, .ref f_starts, .ref f_sorts, .int f_count, .int f_sections, .int f_fifth])), (f_kinds, .inl (cI, 255, .inl u_30))] H := hP
                      have hD : va_D A [(f_signs, .inl (cI, 255, .inl f_signsF)), (f_starts, .inl (cI, 4, .inl f_startsF)), (f, .inr (2, [.ref f_kinds, .ref f_signs, .ref f_sizes, .ref f_places, .ref f_limits, .ref f_starts, .ref f_sorts, .int f_count, .int f_sections, .int f_fifth])), (f_kinds, .inl (cI, 255, .inl u_30))] := hD
                      obtain ⟨x_31, ex_31⟩ : ∃ y : Int32, y = x_18 + 1 := ⟨_, rfl⟩
                      have b_x_18 := ti_b x_18
                      have tx_31 := ti_add ex_31
                      refine lv_iinc (v := x_31) (lv' := [(5, .int x_31), (2, .int x_3), (0, .ref f), (1, .int p1)]) hx hb dX5_markTenths_109 hl (k := 0) rfl (by rw [ex_31]; rfl) (by decide) rfl (fun ls hl => ?_)
                      refine lv_goto (tgt := 76) hx hb dX5_markTenths_112 (by decide) ?_
                      exact hZ1 (ih_76 x_31 u_30 _ _ _ (by omega) (hP.sub [2, 3, 0, 1] rfl) (hD.sub [2, 3, 0, 1] (by decide) rfl) hS hl)
              exact hZ1 (L_76 (((2147483647 - (x_17 : Int32).toInt).toNat) + 1) x_17 f_4 _ _ _ (by omega) hP hD hS (lv_sub hl [0, 2, 3, 4] rfl))
            · have ic_16 : (z_11 : Int32).toInt = (0 : Int32).toInt := (fa_eq z_11 0).mp c_16
              refine lv_goto (tgt := 115) hx hb dX5_markTenths_68 (by decide) ?_
              obtain ⟨x_32, ex_32⟩ : ∃ y : Int32, y = x_3 + 1 := ⟨_, rfl⟩
              have b_x_3 := ti_b x_3
              have tx_32 := ti_add ex_32
              refine lv_iinc (v := x_32) (lv' := [(2, .int x_32), (4, .int z_11), (0, .ref f), (1, .int p1)]) hx hb dX5_markTenths_115 hl (k := 1) rfl (by rw [ex_32]; rfl) (by decide) rfl (fun ls hl => ?_)
              refine lv_goto (tgt := 6) hx hb dX5_markTenths_118 (by decide) ?_
              exact hZ1 (ih_6 x_32 f_4 _ _ _ (by omega) hP hD hS (lv_sub hl [0, 2, 3] rfl))
        have K_51 : ∀ (H : Heap) (locs : List Loc) (ls : Array Slot), va_P D vwCl [(f, .inr (2, [.ref f_kinds, .ref f_signs, .ref f_sizes, .ref f_places, .ref f_limits, .ref f_starts, .ref f_sorts, .int f_count, .int f_sections, .int f_fifth])), (f_kinds, .inl (cI, 255, .inl f_4)), (f_signs, .inl (cI, 255, .inl f_signsF)), (f_starts, .inl (cI, 4, .inl f_startsF))] H → va_D A [(f, .inr (2, [.ref f_kinds, .ref f_signs, .ref f_sizes, .ref f_places, .ref f_limits, .ref f_starts, .ref f_sorts, .int f_count, .int f_sections, .int f_fifth])), (f_kinds, .inl (cI, 255, .inl f_4)), (f_signs, .inl (cI, 255, .inl f_signsF)), (f_starts, .inl (cI, 4, .inl f_startsF))] → va_S A s.heap H locs → lv_has ls 6 [(2, .int x_3), (0, .ref f), (1, .int p1)] → Z 0 0 H locs (F0 m 51 ls []) := by
          intro  H locs ls  hP hD hS hl
          refine hZ2 ?_
          refine lv_iconst (v := 0) hx hb dX5_markTenths_51 (by decide) ?_
          exact hZ1 (K_52 0 _ _ _ (by omega) hP hD hS hl)
        have K_35 : ∀ (H : Heap) (locs : List Loc) (ls : Array Slot), va_P D vwCl [(f, .inr (2, [.ref f_kinds, .ref f_signs, .ref f_sizes, .ref f_places, .ref f_limits, .ref f_starts, .ref f_sorts, .int f_count, .int f_sections, .int f_fifth])), (f_kinds, .inl (cI, 255, .inl f_4)), (f_signs, .inl (cI, 255, .inl f_signsF)), (f_starts, .inl (cI, 4, .inl f_startsF))] H → va_D A [(f, .inr (2, [.ref f_kinds, .ref f_signs, .ref f_sizes, .ref f_places, .ref f_limits, .ref f_starts, .ref f_sorts, .int f_count, .int f_sections, .int f_fifth])), (f_kinds, .inl (cI, 255, .inl f_4)), (f_signs, .inl (cI, 255, .inl f_signsF)), (f_starts, .inl (cI, 4, .inl f_startsF))] → va_S A s.heap H locs → lv_has ls 6 [(2, .int x_3), (0, .ref f), (1, .int p1)] → Z 0 0 H locs (F0 m 35 ls []) := by
          intro  H locs ls  hP hD hS hl
          refine hZ2 ?_
          refine lv_aload_n hx hb dX5_markTenths_35 rfl (lv_at hl 1 rfl) ?_
          refine lv_iload_n hx hb dX5_markTenths_36 rfl (lv_at hl 0 rfl) ?_
          refine lv_iconst (v := 1) hx hb dX5_markTenths_37 (by decide) ?_
          refine lv_isub hx hb dX5_markTenths_38 ?_
          refine lv_topi (fun x_33 ex_33 => ?_)
          have b_x_3 := ti_b x_3
          have tx_33 := ti_sub ex_33
          have hPc := hP.sub (ws' := [(f, .inr (2, [.ref f_kinds, .ref f_signs, .ref f_sizes, .ref f_places, .ref f_limits, .ref f_starts, .ref f_sorts, .int f_count, .int f_sections, .int f_fifth])), (f_signs, .inl (cI, 255, .inl f_signsF))]) [0, 2] rfl
          refine va_calli (va_runV (As := [.int x_33]) (rest := []) ⟨hx, hb, hml, hown, hts⟩ (c_X2_sign l D cI cD cJ H.size f f_kinds f_signs f_sizes f_places f_limits f_starts f_sorts f_count f_sections f_fifth f_signsF x_33 (by omega) (by omega)) (cwV 1 hts (goodIn_app (goodIn_r _ [20, 21, 22, 4] rfl (by decide +kernel)) (goodIn_sub i_X2_sign k_X2_sign)) rfl rfl rfl (by decide +kernel) ⟨Nat.le_of_ble_eq_true rfl, Nat.le_of_ble_eq_true rfl⟩) ⟨fun a U g mk q => by obtain ⟨q0, qP, qK⟩ := q; exact ⟨q0, qP, va_K.moved (u := U) (U := U.calling g mk a) (Vm.Alike.refl U.vm) qK⟩, va_recv hK hPc (ci := 2) (q0 := 0) rfl rfl, fun U hU hW => ⟨rfl, by rw [hU]; exact hPc, va_K.moved hW.alike hK⟩⟩ rfl rfl hl.1 rfl (lv_room (Nat.le_of_ble_eq_true rfl)) dX5_markTenths_39 ⟨Nat.le_of_ble_eq_true rfl, Nat.le_of_ble_eq_true rfl⟩) hS (fun q _ h => h.elim) (fun q h => h.elim) (fun x_34 u t H1 locs ht hvm w_35 hB hz1 hk1 hS => ?_)
          have hP : va_P D vwCl [(f, .inr (2, [.ref f_kinds, .ref f_signs, .ref f_sizes, .ref f_places, .ref f_limits, .ref f_starts, .ref f_sorts, .int f_count, .int f_sections, .int f_fifth])), (f_kinds, .inl (cI, 255, .inl f_4)), (f_signs, .inl (cI, 255, .inl f_signsF)), (f_starts, .inl (cI, 4, .inl f_startsF))] H1 := hP.kept (fun k9 q9 h9 => hk1 q9.1 (vx_lt hP h9) (fun h => h))
          generalize H1 = H at hP hS ⊢
          have b_x_34 := ti_b x_34
          refine lv_bipush (v := 115) hx hb dX5_markTenths_42 (by decide) ?_
          refine lv_icmp_ne (tgt := 51) hx hb dX5_markTenths_44 (by decide) (fun c_36 => ?_) (fun c_36 => ?_)
          · have ic_36 : ¬ ((x_34 : Int32).toInt = (115 : Int32).toInt) := fun h9 => c_36 ((fa_eq x_34 115).mpr h9)
            exact hZ1 (K_51  _ _ _ hP hD hS hl)
          · have ic_36 : (x_34 : Int32).toInt = (115 : Int32).toInt := (fa_eq x_34 115).mp c_36
            refine lv_iconst (v := 1) hx hb dX5_markTenths_47 (by decide) ?_
            refine lv_goto (tgt := 52) hx hb dX5_markTenths_48 (by decide) ?_
            exact hZ1 (K_52 1 _ _ _ (by omega) hP hD hS hl)
        refine lv_icmp_eq (tgt := 35) hx hb dX5_markTenths_27 (by decide) (fun c_37 => ?_) (fun c_37 => ?_)
        · have ic_37 : (x_9 : Int32).toInt = (13 : Int32).toInt := (fa_eq x_9 13).mp c_37
          exact hZ1 (K_35  _ _ _ hP hD hS (lv_sub hl [1, 2, 3] rfl))
        · have ic_37 : ¬ ((x_9 : Int32).toInt = (13 : Int32).toInt) := fun h9 => c_37 ((fa_eq x_9 13).mpr h9)
          refine lv_iload_n hx hb dX5_markTenths_30 rfl (lv_at hl 0 rfl) ?_
          refine lv_iconst (v := 3) hx hb dX5_markTenths_31 (by decide) ?_
          refine lv_icmp_ne (tgt := 51) hx hb dX5_markTenths_32 (by decide) (fun c_38 => ?_) (fun c_38 => ?_)
          · have ic_38 : ¬ ((x_9 : Int32).toInt = (3 : Int32).toInt) := fun h9 => c_38 ((fa_eq x_9 3).mpr h9)
            exact hZ1 (K_51  _ _ _ hP hD hS (lv_sub hl [1, 2, 3] rfl))
          · have ic_38 : (x_9 : Int32).toInt = (3 : Int32).toInt := (fa_eq x_9 3).mp c_38
            exact hZ1 (K_35  _ _ _ hP hD hS (lv_sub hl [1, 2, 3] rfl))
  exact hZ1 (L_6 (((2147483647 - (x_1 : Int32).toInt).toNat) + 1) x_1 f_kindsF _ _ _ (by omega) hP hD hS hl)

def ow_X5_isIllInDate : List Cond := []
def pw_X5_isIllInDate : List Cond := Cond.code yX5_isIllInDate cX5_isIllInDate 1 (some .boolean) :: (ow_X5_isIllInDate)
set_option maxRecDepth 20000 in
theorem mo_X5_isIllInDate : ∀ w ∈ ow_X5_isIllInDate, w ∈ lw_tbl := by decide +kernel
set_option maxRecDepth 20000 in
theorem mc_X5_isIllInDate : Cond.code yX5_isIllInDate cX5_isIllInDate 1 (some .boolean) ∈ lw_tbl := by decide +kernel
theorem m_X5_isIllInDate : ∀ w ∈ pw_X5_isIllInDate, w ∈ lw_tbl := List.forall_mem_cons.mpr ⟨mc_X5_isIllInDate, mo_X5_isIllInDate⟩
theorem ko_X5_isIllInDate : ∀ w ∈ ow_X5_isIllInDate, goodWord w = true := by decide +kernel
theorem k_X5_isIllInDate : pw_X5_isIllInDate.all goodWord = true := List.all_eq_true.mpr (List.forall_mem_cons.mpr ⟨by decide +kernel, ko_X5_isIllInDate⟩)
set_option maxHeartbeats 400000 in
set_option maxRecDepth 100000 in
theorem c_X5_isIllInDate (l : Launch) (D : va_G) (cI cD cJ : ClassId) (sz : Nat) (p1 : Int32) : Met l yX5_isIllInDate pw_X5_isIllInDate ({ frames := 0, cells := 0, slots := 0, locals := 0 }) (va_Pc [.int p1] (fun U => va_P D vwCl [] U.heap ∧ va_K D vwCl (ty3 cI cD cJ) U)) (va_Qi (fun (r : Int32) (u : Unit) => (r.toInt = 0 ∨ r.toInt = 1)) (fun _ _ => True) (fun _ => False)) 0 0 (fun _ => False) := by
  refine Met.ofW (cc := cX5_isIllInDate) (maxL := 1) (ret := (some .boolean)) (by decide +kernel) rfl ?_
  intro p e s m args below meth c s₁ B hml hv
  obtain ⟨rfl, hP, hK⟩ := hv
  have hx := B.exec
  have hb := B.bytes
  have hr := B.returns
  have hts := atoms_spec (ws := pw_X5_isIllInDate) B.pre
  have hown : s.vm.findClass RX5 = some m.cls := findClass_of_methodNamed B.named
  have hlocks := B.notSynchronized
  have hS : va_S (fun _ => False) s.heap s.heap [] := va_S.rf
  have hw : ∀ (k : Nat) (w : Cond), ow_X5_isIllInDate[k]? = some w → w.before _ s = true := fun k w h => hts w (List.mem_cons_of_mem _ (have h9 := List.mem_of_getElem? h; h9))
  have n_0 : ((0 : Int32)).toInt = 0 := by decide
  have n_1 : ((1 : Int32)).toInt = 1 := by decide
  have hl := lv_entry ([.int p1]) (n := 1) (Nat.le_of_ble_eq_true rfl)
  rw [lg_entry_eq]
  generalize (lg_sl ([.int p1]) ++ List.replicate (1 - (lg_sl ([.int p1])).length) Slot.unset).toArray = ls at hl ⊢
  have hl : lv_has ls 1 [(0, .int p1)] := hl
  have b_p1 := ti_b p1
  refine lv_iload_n hx hb dX5_isIllInDate_0 rfl (lv_at hl 0 rfl) ?_
  rcases (show (p1 : Int32).toInt < 4 ∨ 14 < (p1 : Int32).toInt ∨ (p1 : Int32).toInt = 4 ∨ (p1 : Int32).toInt = 5 ∨ (p1 : Int32).toInt = 6 ∨ (p1 : Int32).toInt = 7 ∨ (p1 : Int32).toInt = 8 ∨ (p1 : Int32).toInt = 9 ∨ (p1 : Int32).toInt = 10 ∨ (p1 : Int32).toInt = 11 ∨ (p1 : Int32).toInt = 12 ∨ (p1 : Int32).toInt = 13 ∨ (p1 : Int32).toInt = 14 by omega) with v_1 | v_1 | v_1 | v_1 | v_1 | v_1 | v_1 | v_1 | v_1 | v_1 | v_1 | v_1 | v_1
  · refine lv_tableOut (tgt := 62) hx hb dX5_isIllInDate_1 (Or.inl v_1) (by decide) ?_
    refine lv_iconst (v := 0) hx hb dX5_isIllInDate_62 (by decide) ?_
    exact W.zret (v := 0) hx hb hr rfl (fun t ht hW => ⟨⟨0, (), rfl, (by (try dsimp only); first | omega | assumption), trivial⟩, hS.F ht⟩) hS.2.2 dX5_isIllInDate_63
  · refine lv_tableOut (tgt := 62) hx hb dX5_isIllInDate_1 (Or.inr v_1) (by decide) ?_
    refine lv_iconst (v := 0) hx hb dX5_isIllInDate_62 (by decide) ?_
    exact W.zret (v := 0) hx hb hr rfl (fun t ht hW => ⟨⟨0, (), rfl, (by (try dsimp only); first | omega | assumption), trivial⟩, hS.F ht⟩) hS.2.2 dX5_isIllInDate_63
  · refine lv_tableIn (off := 59) (tgt := 60) hx hb dX5_isIllInDate_1 (by omega) (by omega) (by rw [v_1]; rfl) (by decide) ?_
    refine lv_iconst (v := 1) hx hb dX5_isIllInDate_60 (by decide) ?_
    exact W.zret (v := 1) hx hb hr rfl (fun t ht hW => ⟨⟨1, (), rfl, (by (try dsimp only); first | omega | assumption), trivial⟩, hS.F ht⟩) hS.2.2 dX5_isIllInDate_61
  · refine lv_tableIn (off := 61) (tgt := 62) hx hb dX5_isIllInDate_1 (by omega) (by omega) (by rw [v_1]; rfl) (by decide) ?_
    refine lv_iconst (v := 0) hx hb dX5_isIllInDate_62 (by decide) ?_
    exact W.zret (v := 0) hx hb hr rfl (fun t ht hW => ⟨⟨0, (), rfl, (by (try dsimp only); first | omega | assumption), trivial⟩, hS.F ht⟩) hS.2.2 dX5_isIllInDate_63
  · refine lv_tableIn (off := 61) (tgt := 62) hx hb dX5_isIllInDate_1 (by omega) (by omega) (by rw [v_1]; rfl) (by decide) ?_
    refine lv_iconst (v := 0) hx hb dX5_isIllInDate_62 (by decide) ?_
    exact W.zret (v := 0) hx hb hr rfl (fun t ht hW => ⟨⟨0, (), rfl, (by (try dsimp only); first | omega | assumption), trivial⟩, hS.F ht⟩) hS.2.2 dX5_isIllInDate_63
  · refine lv_tableIn (off := 59) (tgt := 60) hx hb dX5_isIllInDate_1 (by omega) (by omega) (by rw [v_1]; rfl) (by decide) ?_
    refine lv_iconst (v := 1) hx hb dX5_isIllInDate_60 (by decide) ?_
    exact W.zret (v := 1) hx hb hr rfl (fun t ht hW => ⟨⟨1, (), rfl, (by (try dsimp only); first | omega | assumption), trivial⟩, hS.F ht⟩) hS.2.2 dX5_isIllInDate_61
  · refine lv_tableIn (off := 61) (tgt := 62) hx hb dX5_isIllInDate_1 (by omega) (by omega) (by rw [v_1]; rfl) (by decide) ?_
    refine lv_iconst (v := 0) hx hb dX5_isIllInDate_62 (by decide) ?_
    exact W.zret (v := 0) hx hb hr rfl (fun t ht hW => ⟨⟨0, (), rfl, (by (try dsimp only); first | omega | assumption), trivial⟩, hS.F ht⟩) hS.2.2 dX5_isIllInDate_63
  · refine lv_tableIn (off := 59) (tgt := 60) hx hb dX5_isIllInDate_1 (by omega) (by omega) (by rw [v_1]; rfl) (by decide) ?_
    refine lv_iconst (v := 1) hx hb dX5_isIllInDate_60 (by decide) ?_
    exact W.zret (v := 1) hx hb hr rfl (fun t ht hW => ⟨⟨1, (), rfl, (by (try dsimp only); first | omega | assumption), trivial⟩, hS.F ht⟩) hS.2.2 dX5_isIllInDate_61
  · refine lv_tableIn (off := 59) (tgt := 60) hx hb dX5_isIllInDate_1 (by omega) (by omega) (by rw [v_1]; rfl) (by decide) ?_
    refine lv_iconst (v := 1) hx hb dX5_isIllInDate_60 (by decide) ?_
    exact W.zret (v := 1) hx hb hr rfl (fun t ht hW => ⟨⟨1, (), rfl, (by (try dsimp only); first | omega | assumption), trivial⟩, hS.F ht⟩) hS.2.2 dX5_isIllInDate_61
  · refine lv_tableIn (off := 59) (tgt := 60) hx hb dX5_isIllInDate_1 (by omega) (by omega) (by rw [v_1]; rfl) (by decide) ?_
    refine lv_iconst (v := 1) hx hb dX5_isIllInDate_60 (by decide) ?_
    exact W.zret (v := 1) hx hb hr rfl (fun t ht hW => ⟨⟨1, (), rfl, (by (try dsimp only); first | omega | assumption), trivial⟩, hS.F ht⟩) hS.2.2 dX5_isIllInDate_61
  · refine lv_tableIn (off := 61) (tgt := 62) hx hb dX5_isIllInDate_1 (by omega) (by omega) (by rw [v_1]; rfl) (by decide) ?_
    refine lv_iconst (v := 0) hx hb dX5_isIllInDate_62 (by decide) ?_
    exact W.zret (v := 0) hx hb hr rfl (fun t ht hW => ⟨⟨0, (), rfl, (by (try dsimp only); first | omega | assumption), trivial⟩, hS.F ht⟩) hS.2.2 dX5_isIllInDate_63
  · refine lv_tableIn (off := 61) (tgt := 62) hx hb dX5_isIllInDate_1 (by omega) (by omega) (by rw [v_1]; rfl) (by decide) ?_
    refine lv_iconst (v := 0) hx hb dX5_isIllInDate_62 (by decide) ?_
    exact W.zret (v := 0) hx hb hr rfl (fun t ht hW => ⟨⟨0, (), rfl, (by (try dsimp only); first | omega | assumption), trivial⟩, hS.F ht⟩) hS.2.2 dX5_isIllInDate_63
  · refine lv_tableIn (off := 59) (tgt := 60) hx hb dX5_isIllInDate_1 (by omega) (by omega) (by rw [v_1]; rfl) (by decide) ?_
    refine lv_iconst (v := 1) hx hb dX5_isIllInDate_60 (by decide) ?_
    exact W.zret (v := 1) hx hb hr rfl (fun t ht hW => ⟨⟨1, (), rfl, (by (try dsimp only); first | omega | assumption), trivial⟩, hS.F ht⟩) hS.2.2 dX5_isIllInDate_61

def ow_X5_isIllInNumber : List Cond := [Cond.methodLink RX5 45 yX2_findIn, Cond.instanceMethod yX2_findIn, Cond.selects RX2 yX2_findIn yX2_findIn, Cond.initialized RX2, Cond.methodLink RX5 62 yX2_kind, Cond.instanceMethod yX2_kind, Cond.selects RX2 yX2_kind yX2_kind, Cond.methodLink RX5 56 yX2_from, Cond.instanceMethod yX2_from, Cond.selects RX2 yX2_from yX2_from, Cond.methodLink RX5 94 yX2_find, Cond.instanceMethod yX2_find, Cond.selects RX2 yX2_find yX2_find, Cond.methodLink RX5 53 yX2_kindIn, Cond.instanceMethod yX2_kindIn, Cond.selects RX2 yX2_kindIn yX2_kindIn]
def pw_X5_isIllInNumber : List Cond := Cond.code yX5_isIllInNumber cX5_isIllInNumber 4 (some .boolean) :: (ow_X5_isIllInNumber ++ (pw_X2_findIn ++ (pw_X2_kind ++ (pw_X2_from ++ (pw_X2_find ++ (pw_X2_kindIn))))))
set_option maxRecDepth 20000 in
theorem mo_X5_isIllInNumber : ∀ w ∈ ow_X5_isIllInNumber, w ∈ lw_tbl := by decide +kernel
set_option maxRecDepth 20000 in
theorem mc_X5_isIllInNumber : Cond.code yX5_isIllInNumber cX5_isIllInNumber 4 (some .boolean) ∈ lw_tbl := by decide +kernel
theorem m_X5_isIllInNumber : ∀ w ∈ pw_X5_isIllInNumber, w ∈ lw_tbl := List.forall_mem_cons.mpr ⟨mc_X5_isIllInNumber, (List.forall_mem_append.mpr ⟨mo_X5_isIllInNumber, (List.forall_mem_append.mpr ⟨m_X2_findIn, (List.forall_mem_append.mpr ⟨m_X2_kind, (List.forall_mem_append.mpr ⟨m_X2_from, (List.forall_mem_append.mpr ⟨m_X2_find, m_X2_kindIn⟩)⟩)⟩)⟩)⟩)⟩
theorem ko_X5_isIllInNumber : ∀ w ∈ ow_X5_isIllInNumber, goodWord w = true := by decide +kernel
theorem k_X5_isIllInNumber : pw_X5_isIllInNumber.all goodWord = true := List.all_eq_true.mpr (List.forall_mem_cons.mpr ⟨by decide +kernel, (List.forall_mem_append.mpr ⟨ko_X5_isIllInNumber, (List.forall_mem_append.mpr ⟨(List.all_eq_true.mp k_X2_findIn), (List.forall_mem_append.mpr ⟨(List.all_eq_true.mp k_X2_kind), (List.forall_mem_append.mpr ⟨(List.all_eq_true.mp k_X2_from), (List.forall_mem_append.mpr ⟨(List.all_eq_true.mp k_X2_find), (List.all_eq_true.mp k_X2_kindIn)⟩)⟩)⟩)⟩)⟩)⟩)
set_option maxHeartbeats 400000 in
set_option maxRecDepth 100000 in
theorem c_X5_isIllInNumber (l : Launch) (D : va_G) (cI cD cJ : ClassId) (sz : Nat) (f : Nat) (f_kinds : Nat) (f_signs : Nat) (f_sizes : Nat) (f_places : Nat) (f_limits : Nat) (f_starts : Nat) (f_sorts : Nat) (f_count : Int32) (f_sections : Int32) (f_fifth : Int32) (f_kindsF : Nat → Int32) (f_startsF : Nat → Int32) (p1 : Int32) (p2 : Int32) (hs9 : p1.toInt ≤ 4) (iv_f_count : 0 ≤ (f_count : Int32).toInt ∧ (f_count : Int32).toInt ≤ 255) (iv_f_sections : 0 ≤ (f_sections : Int32).toInt ∧ (f_sections : Int32).toInt ≤ 4) (iv_f_startsF : ∀ k9 : Nat, k9 < 4 → 0 ≤ (f_startsF k9).toInt ∧ (f_startsF k9).toInt ≤ 255) : Met l yX5_isIllInNumber pw_X5_isIllInNumber ({ frames := 3, cells := 0, slots := 0, locals := 67 }) (va_Pc [.ref f, .int p1, .int p2] (fun U => va_P D vwCl [(f, .inr (2, [.ref f_kinds, .ref f_signs, .ref f_sizes, .ref f_places, .ref f_limits, .ref f_starts, .ref f_sorts, .int f_count, .int f_sections, .int f_fifth])), (f_kinds, .inl (cI, 255, .inl f_kindsF)), (f_starts, .inl (cI, 4, .inl f_startsF))] U.heap ∧ va_K D vwCl (ty3 cI cD cJ) U)) (va_Qi (fun (r : Int32) (u : Unit) => (r.toInt = 0 ∨ r.toInt = 1)) (fun _ _ => True) (fun _ => False)) 0 0 (fun _ => False) := by
  refine Met.ofW (cc := cX5_isIllInNumber) (maxL := 4) (ret := (some .boolean)) (by decide +kernel) rfl ?_
  intro p e s m args below meth c s₁ B hml hv
  obtain ⟨rfl, hP, hK⟩ := hv
  have hx := B.exec
  have hb := B.bytes
  have hr := B.returns
  have hts := atoms_spec (ws := pw_X5_isIllInNumber) B.pre
  have hown : s.vm.findClass RX5 = some m.cls := findClass_of_methodNamed B.named
  have hlocks := B.notSynchronized
  have hS : va_S (fun _ => False) s.heap s.heap [] := va_S.rf
  have hw : ∀ (k : Nat) (w : Cond), ow_X5_isIllInNumber[k]? = some w → w.before _ s = true := fun k w h => hts w (List.mem_cons_of_mem _ (have h9 := List.mem_of_getElem? h; List.mem_append_left _ h9))
  have i_X2_findIn : ∀ w ∈ pw_X2_findIn, w ∈ pw_X5_isIllInNumber := fun w h9 => List.mem_cons_of_mem _ (List.mem_append_right _ (List.mem_append_left _ h9))
  have i_X2_kind : ∀ w ∈ pw_X2_kind, w ∈ pw_X5_isIllInNumber := fun w h9 => List.mem_cons_of_mem _ (List.mem_append_right _ (List.mem_append_right _ (List.mem_append_left _ h9)))
  have i_X2_from : ∀ w ∈ pw_X2_from, w ∈ pw_X5_isIllInNumber := fun w h9 => List.mem_cons_of_mem _ (List.mem_append_right _ (List.mem_append_right _ (List.mem_append_right _ (List.mem_append_left _ h9))))
  have i_X2_find : ∀ w ∈ pw_X2_find, w ∈ pw_X5_isIllInNumber := fun w h9 => List.mem_cons_of_mem _ (List.mem_append_right _ (List.mem_append_right _ (List.mem_append_right _ (List.mem_append_right _ (List.mem_append_left _ h9)))))
  have i_X2_kindIn : ∀ w ∈ pw_X2_kindIn, w ∈ pw_X5_isIllInNumber := fun w h9 => List.mem_cons_of_mem _ (List.mem_append_right _ (List.mem_append_right _ (List.mem_append_right _ (List.mem_append_right _ (List.mem_append_right _ (h9))))))
  have n_m1 : (((-1) : Int32)).toInt = (-1) := by decide
  have n_0 : ((0 : Int32)).toInt = 0 := by decide
  have n_1 : ((1 : Int32)).toInt = 1 := by decide
  have n_10 : ((10 : Int32)).toInt = 10 := by decide
  have n_3 : ((3 : Int32)).toInt = 3 := by decide
  have n_4 : ((4 : Int32)).toInt = 4 := by decide
  have n_5 : ((5 : Int32)).toInt = 5 := by decide
  have hl := lv_entry ([.ref f, .int p1, .int p2]) (n := 4) (Nat.le_of_ble_eq_true rfl)
  rw [lg_entry_eq]
  generalize (lg_sl ([.ref f, .int p1, .int p2]) ++ List.replicate (4 - (lg_sl ([.ref f, .int p1, .int p2])).length) Slot.unset).toArray = ls at hl ⊢
  have hl : lv_has ls 4 [(0, .ref f), (1, .int p1), (2, .int p2)] := hl
  have b_p1 := ti_b p1
  have b_p2 := ti_b p2
  refine zz_cap (fun Z hZ1 hZ2 => ?_)
  refine lv_aload_n hx hb dX5_isIllInNumber_0 rfl (lv_at hl 0 rfl) ?_
  refine lv_iload_n hx hb dX5_isIllInNumber_1 rfl (lv_at hl 1 rfl) ?_
  refine lv_bipush (v := 10) hx hb dX5_isIllInNumber_2 (by decide) ?_
  have hPc := hP.sub (ws' := [(f, .inr (2, [.ref f_kinds, .ref f_signs, .ref f_sizes, .ref f_places, .ref f_limits, .ref f_starts, .ref f_sorts, .int f_count, .int f_sections, .int f_fifth])), (f_kinds, .inl (cI, 255, .inl f_kindsF)), (f_starts, .inl (cI, 4, .inl f_startsF))]) [0, 1, 2] rfl
  refine va_calli (va_runV (As := [.int p1, .int 10]) (rest := []) ⟨hx, hb, hml, hown, hts⟩ (c_X2_findIn l D cI cD cJ s.heap.size f f_kinds f_signs f_sizes f_places f_limits f_starts f_sorts f_count f_sections f_fifth f_kindsF f_startsF p1 10 (by omega) (by omega) (by omega) (by assumption)) (cwV 2 hts (goodIn_app (goodIn_r _ [1, 2, 3, 4] rfl (by decide +kernel)) (goodIn_sub i_X2_findIn k_X2_findIn)) rfl rfl rfl (by decide +kernel) ⟨Nat.le_of_ble_eq_true rfl, Nat.le_of_ble_eq_true rfl⟩) ⟨fun a U g mk q => by obtain ⟨q0, qP, qK⟩ := q; exact ⟨q0, qP, va_K.moved (u := U) (U := U.calling g mk a) (Vm.Alike.refl U.vm) qK⟩, va_recv hK hPc (ci := 2) (q0 := 0) rfl rfl, fun U hU hW => ⟨rfl, by rw [hU]; exact hPc, va_K.moved hW.alike hK⟩⟩ rfl rfl hl.1 rfl (lv_room (Nat.le_of_ble_eq_true rfl)) dX5_isIllInNumber_4 ⟨Nat.le_of_ble_eq_true rfl, Nat.le_of_ble_eq_true rfl⟩) hS (fun q _ h => h.elim) (fun q h => h.elim) (fun x_1 u t H1 locs ht hvm w_2 hB hz1 hk1 hS => ?_)
  have hP : va_P D vwCl [(f, .inr (2, [.ref f_kinds, .ref f_signs, .ref f_sizes, .ref f_places, .ref f_limits, .ref f_starts, .ref f_sorts, .int f_count, .int f_sections, .int f_fifth])), (f_kinds, .inl (cI, 255, .inl f_kindsF)), (f_starts, .inl (cI, 4, .inl f_startsF))] H1 := hP.kept (fun k9 q9 h9 => hk1 q9.1 (vx_lt hP h9) (fun h => h))
  generalize H1 = H at hP hS ⊢
  try dsimp only at w_2
  refine lv_istore_n (lv' := [(3, .int x_1), (0, .ref f), (1, .int p1), (2, .int p2)]) hx hb dX5_isIllInNumber_7 rfl hl (by decide) rfl (fun ls hl => ?_)
  refine lv_iload_n hx hb dX5_isIllInNumber_8 rfl (lv_at hl 0 rfl) ?_
  refine lv_iconst (v := (-1)) hx hb dX5_isIllInNumber_9 (by decide) ?_
  have K_40 : ∀ (H : Heap) (locs : List Loc) (ls : Array Slot), va_P D vwCl [(f, .inr (2, [.ref f_kinds, .ref f_signs, .ref f_sizes, .ref f_places, .ref f_limits, .ref f_starts, .ref f_sorts, .int f_count, .int f_sections, .int f_fifth])), (f_kinds, .inl (cI, 255, .inl f_kindsF)), (f_starts, .inl (cI, 4, .inl f_startsF))] H → va_S (fun _ => False) s.heap H locs → lv_has ls 4 [(0, .ref f), (1, .int p1), (2, .int p2)] → Z 0 0 H locs (F0 m 40 ls []) := by
    intro  H locs ls  hP hS hl
    refine hZ2 ?_
    refine lv_aload_n hx hb dX5_isIllInNumber_40 rfl (lv_at hl 0 rfl) ?_
    refine lv_iload_n hx hb dX5_isIllInNumber_41 rfl (lv_at hl 2 rfl) ?_
    have hPc := hP.sub (ws' := [(f, .inr (2, [.ref f_kinds, .ref f_signs, .ref f_sizes, .ref f_places, .ref f_limits, .ref f_starts, .ref f_sorts, .int f_count, .int f_sections, .int f_fifth])), (f_kinds, .inl (cI, 255, .inl f_kindsF))]) [0, 1] rfl
    refine va_calli (va_runV (As := [.int p2]) (rest := []) ⟨hx, hb, hml, hown, hts⟩ (c_X2_kind l D cI cD cJ H.size f f_kinds f_signs f_sizes f_places f_limits f_starts f_sorts f_count f_sections f_fifth f_kindsF p2 (by omega) (by omega)) (cwV 1 hts (goodIn_app (goodIn_r _ [5, 6, 7, 4] rfl (by decide +kernel)) (goodIn_sub i_X2_kind k_X2_kind)) rfl rfl rfl (by decide +kernel) ⟨Nat.le_of_ble_eq_true rfl, Nat.le_of_ble_eq_true rfl⟩) ⟨fun a U g mk q => by obtain ⟨q0, qP, qK⟩ := q; exact ⟨q0, qP, va_K.moved (u := U) (U := U.calling g mk a) (Vm.Alike.refl U.vm) qK⟩, va_recv hK hPc (ci := 2) (q0 := 0) rfl rfl, fun U hU hW => ⟨rfl, by rw [hU]; exact hPc, va_K.moved hW.alike hK⟩⟩ rfl rfl hl.1 rfl (lv_room (Nat.le_of_ble_eq_true rfl)) dX5_isIllInNumber_42 ⟨Nat.le_of_ble_eq_true rfl, Nat.le_of_ble_eq_true rfl⟩) hS (fun q _ h => h.elim) (fun q h => h.elim) (fun x_3 u t H1 locs ht hvm w_4 hB hz1 hk1 hS => ?_)
    have hP : va_P D vwCl [(f, .inr (2, [.ref f_kinds, .ref f_signs, .ref f_sizes, .ref f_places, .ref f_limits, .ref f_starts, .ref f_sorts, .int f_count, .int f_sections, .int f_fifth])), (f_kinds, .inl (cI, 255, .inl f_kindsF)), (f_starts, .inl (cI, 4, .inl f_startsF))] H1 := hP.kept (fun k9 q9 h9 => hk1 q9.1 (vx_lt hP h9) (fun h => h))
    generalize H1 = H at hP hS ⊢
    have b_x_3 := ti_b x_3
    rcases (show (x_3 : Int32).toInt < 5 ∨ 14 < (x_3 : Int32).toInt ∨ (x_3 : Int32).toInt = 5 ∨ (x_3 : Int32).toInt = 6 ∨ (x_3 : Int32).toInt = 7 ∨ (x_3 : Int32).toInt = 8 ∨ (x_3 : Int32).toInt = 9 ∨ (x_3 : Int32).toInt = 10 ∨ (x_3 : Int32).toInt = 11 ∨ (x_3 : Int32).toInt = 12 ∨ (x_3 : Int32).toInt = 13 ∨ (x_3 : Int32).toInt = 14 by omega) with v_5 | v_5 | v_5 | v_5 | v_5 | v_5 | v_5 | v_5 | v_5 | v_5 | v_5 | v_5
    · refine lv_tableOut (tgt := 153) hx hb dX5_isIllInNumber_45 (Or.inl v_5) (by decide) ?_
      refine lv_iconst (v := 0) hx hb dX5_isIllInNumber_153 (by decide) ?_
      exact W.zret (v := 0) hx hb hr rfl (fun t ht hW => ⟨⟨0, (), rfl, (by (try dsimp only); first | omega | assumption), trivial⟩, hS.F ht⟩) hS.2.2 dX5_isIllInNumber_154
    · refine lv_tableOut (tgt := 153) hx hb dX5_isIllInNumber_45 (Or.inr v_5) (by decide) ?_
      refine lv_iconst (v := 0) hx hb dX5_isIllInNumber_153 (by decide) ?_
      exact W.zret (v := 0) hx hb hr rfl (fun t ht hW => ⟨⟨0, (), rfl, (by (try dsimp only); first | omega | assumption), trivial⟩, hS.F ht⟩) hS.2.2 dX5_isIllInNumber_154
    · refine lv_tableIn (off := 55) (tgt := 100) hx hb dX5_isIllInNumber_45 (by omega) (by omega) (by rw [v_5]; rfl) (by decide) ?_
      refine lv_aload_n hx hb dX5_isIllInNumber_100 rfl (lv_at hl 0 rfl) ?_
      refine lv_iconst (v := 5) hx hb dX5_isIllInNumber_101 (by decide) ?_
      refine lv_aload_n hx hb dX5_isIllInNumber_102 rfl (lv_at hl 0 rfl) ?_
      refine lv_iload_n hx hb dX5_isIllInNumber_103 rfl (lv_at hl 1 rfl) ?_
      have hPc := hP.sub (ws' := [(f, .inr (2, [.ref f_kinds, .ref f_signs, .ref f_sizes, .ref f_places, .ref f_limits, .ref f_starts, .ref f_sorts, .int f_count, .int f_sections, .int f_fifth])), (f_starts, .inl (cI, 4, .inl f_startsF))]) [0, 2] rfl
      refine va_calli (va_runV (As := [.int p1]) (rest := [.int 5, .ref f]) ⟨hx, hb, hml, hown, hts⟩ (c_X2_from l D cI cD cJ H.size f f_kinds f_signs f_sizes f_places f_limits f_starts f_sorts f_count f_sections f_fifth f_startsF p1 (by omega) (by omega) (by assumption)) (cwV 1 hts (goodIn_app (goodIn_r _ [8, 9, 10, 4] rfl (by decide +kernel)) (goodIn_sub i_X2_from k_X2_from)) rfl rfl rfl (by decide +kernel) ⟨Nat.le_of_ble_eq_true rfl, Nat.le_of_ble_eq_true rfl⟩) ⟨fun a U g mk q => by obtain ⟨q0, qP, qK⟩ := q; exact ⟨q0, qP, va_K.moved (u := U) (U := U.calling g mk a) (Vm.Alike.refl U.vm) qK⟩, va_recv hK hPc (ci := 2) (q0 := 0) rfl rfl, fun U hU hW => ⟨rfl, by rw [hU]; exact hPc, va_K.moved hW.alike hK⟩⟩ rfl rfl hl.1 rfl (lv_room (Nat.le_of_ble_eq_true rfl)) dX5_isIllInNumber_104 ⟨Nat.le_of_ble_eq_true rfl, Nat.le_of_ble_eq_true rfl⟩) hS (fun q _ h => h.elim) (fun q h => h.elim) (fun x_6 u t H1 locs ht hvm w_7 hB hz1 hk1 hS => ?_)
      have hP : va_P D vwCl [(f, .inr (2, [.ref f_kinds, .ref f_signs, .ref f_sizes, .ref f_places, .ref f_limits, .ref f_starts, .ref f_sorts, .int f_count, .int f_sections, .int f_fifth])), (f_kinds, .inl (cI, 255, .inl f_kindsF)), (f_starts, .inl (cI, 4, .inl f_startsF))] H1 := hP.kept (fun k9 q9 h9 => hk1 q9.1 (vx_lt hP h9) (fun h => h))
      generalize H1 = H at hP hS ⊢
      try dsimp only at w_7
      refine lv_iload_n hx hb dX5_isIllInNumber_107 rfl (lv_at hl 2 rfl) ?_
      have hPc := hP.sub (ws' := [(f, .inr (2, [.ref f_kinds, .ref f_signs, .ref f_sizes, .ref f_places, .ref f_limits, .ref f_starts, .ref f_sorts, .int f_count, .int f_sections, .int f_fifth])), (f_kinds, .inl (cI, 255, .inl f_kindsF))]) [0, 1] rfl
      refine va_calli (va_runV (As := [.int 5, .int x_6, .int p2]) (rest := []) ⟨hx, hb, hml, hown, hts⟩ (c_X2_find l D cI cD cJ H.size f f_kinds f_signs f_sizes f_places f_limits f_starts f_sorts f_count f_sections f_fifth f_kindsF 5 x_6 p2 (by omega) (by omega)) (cwV 3 hts (goodIn_app (goodIn_r _ [11, 12, 13, 4] rfl (by decide +kernel)) (goodIn_sub i_X2_find k_X2_find)) rfl rfl rfl (by decide +kernel) ⟨Nat.le_of_ble_eq_true rfl, Nat.le_of_ble_eq_true rfl⟩) ⟨fun a U g mk q => by obtain ⟨q0, qP, qK⟩ := q; exact ⟨q0, qP, va_K.moved (u := U) (U := U.calling g mk a) (Vm.Alike.refl U.vm) qK⟩, va_recv hK hPc (ci := 2) (q0 := 0) rfl rfl, fun U hU hW => ⟨rfl, by rw [hU]; exact hPc, va_K.moved hW.alike hK⟩⟩ rfl rfl hl.1 rfl (lv_room (Nat.le_of_ble_eq_true rfl)) dX5_isIllInNumber_108 ⟨Nat.le_of_ble_eq_true rfl, Nat.le_of_ble_eq_true rfl⟩) hS (fun q _ h => h.elim) (fun q h => h.elim) (fun x_8 u t H1 locs ht hvm w_9 hB hz1 hk1 hS => ?_)
      have hP : va_P D vwCl [(f, .inr (2, [.ref f_kinds, .ref f_signs, .ref f_sizes, .ref f_places, .ref f_limits, .ref f_starts, .ref f_sorts, .int f_count, .int f_sections, .int f_fifth])), (f_kinds, .inl (cI, 255, .inl f_kindsF)), (f_starts, .inl (cI, 4, .inl f_startsF))] H1 := hP.kept (fun k9 q9 h9 => hk1 q9.1 (vx_lt hP h9) (fun h => h))
      generalize H1 = H at hP hS ⊢
      try dsimp only at w_9
      refine lv_iconst (v := (-1)) hx hb dX5_isIllInNumber_111 (by decide) ?_
      refine lv_icmp_eq (tgt := 119) hx hb dX5_isIllInNumber_112 (by decide) (fun c_10 => ?_) (fun c_10 => ?_)
      · have ic_10 : (x_8 : Int32).toInt = ((-1) : Int32).toInt := (fa_eq x_8 (-1)).mp c_10
        refine lv_iconst (v := 0) hx hb dX5_isIllInNumber_119 (by decide) ?_
        exact W.zret (v := 0) hx hb hr rfl (fun t ht hW => ⟨⟨0, (), rfl, (by (try dsimp only); first | omega | assumption), trivial⟩, hS.F ht⟩) hS.2.2 dX5_isIllInNumber_120
      · have ic_10 : ¬ ((x_8 : Int32).toInt = ((-1) : Int32).toInt) := fun h9 => c_10 ((fa_eq x_8 (-1)).mpr h9)
        refine lv_iconst (v := 1) hx hb dX5_isIllInNumber_115 (by decide) ?_
        refine lv_goto (tgt := 120) hx hb dX5_isIllInNumber_116 (by decide) ?_
        exact W.zret (v := 1) hx hb hr rfl (fun t ht hW => ⟨⟨1, (), rfl, (by (try dsimp only); first | omega | assumption), trivial⟩, hS.F ht⟩) hS.2.2 dX5_isIllInNumber_120
    · refine lv_tableIn (off := 108) (tgt := 153) hx hb dX5_isIllInNumber_45 (by omega) (by omega) (by rw [v_5]; rfl) (by decide) ?_
      refine lv_iconst (v := 0) hx hb dX5_isIllInNumber_153 (by decide) ?_
      exact W.zret (v := 0) hx hb hr rfl (fun t ht hW => ⟨⟨0, (), rfl, (by (try dsimp only); first | omega | assumption), trivial⟩, hS.F ht⟩) hS.2.2 dX5_isIllInNumber_154
    · refine lv_tableIn (off := 108) (tgt := 153) hx hb dX5_isIllInNumber_45 (by omega) (by omega) (by rw [v_5]; rfl) (by decide) ?_
      refine lv_iconst (v := 0) hx hb dX5_isIllInNumber_153 (by decide) ?_
      exact W.zret (v := 0) hx hb hr rfl (fun t ht hW => ⟨⟨0, (), rfl, (by (try dsimp only); first | omega | assumption), trivial⟩, hS.F ht⟩) hS.2.2 dX5_isIllInNumber_154
    · refine lv_tableIn (off := 106) (tgt := 151) hx hb dX5_isIllInNumber_45 (by omega) (by omega) (by rw [v_5]; rfl) (by decide) ?_
      refine lv_iconst (v := 1) hx hb dX5_isIllInNumber_151 (by decide) ?_
      exact W.zret (v := 1) hx hb hr rfl (fun t ht hW => ⟨⟨1, (), rfl, (by (try dsimp only); first | omega | assumption), trivial⟩, hS.F ht⟩) hS.2.2 dX5_isIllInNumber_152
    · refine lv_tableIn (off := 108) (tgt := 153) hx hb dX5_isIllInNumber_45 (by omega) (by omega) (by rw [v_5]; rfl) (by decide) ?_
      refine lv_iconst (v := 0) hx hb dX5_isIllInNumber_153 (by decide) ?_
      exact W.zret (v := 0) hx hb hr rfl (fun t ht hW => ⟨⟨0, (), rfl, (by (try dsimp only); first | omega | assumption), trivial⟩, hS.F ht⟩) hS.2.2 dX5_isIllInNumber_154
    · refine lv_tableIn (off := 76) (tgt := 121) hx hb dX5_isIllInNumber_45 (by omega) (by omega) (by rw [v_5]; rfl) (by decide) ?_
      refine lv_aload_n hx hb dX5_isIllInNumber_121 rfl (lv_at hl 0 rfl) ?_
      refine lv_iload_n hx hb dX5_isIllInNumber_122 rfl (lv_at hl 1 rfl) ?_
      refine lv_iload_n hx hb dX5_isIllInNumber_123 rfl (lv_at hl 2 rfl) ?_
      refine lv_iconst (v := 1) hx hb dX5_isIllInNumber_124 (by decide) ?_
      refine lv_isub hx hb dX5_isIllInNumber_125 ?_
      refine lv_topi (fun x_11 ex_11 => ?_)
      have b_p2 := ti_b p2
      have tx_11 := ti_sub ex_11
      have hPc := hP.sub (ws' := [(f, .inr (2, [.ref f_kinds, .ref f_signs, .ref f_sizes, .ref f_places, .ref f_limits, .ref f_starts, .ref f_sorts, .int f_count, .int f_sections, .int f_fifth])), (f_kinds, .inl (cI, 255, .inl f_kindsF)), (f_starts, .inl (cI, 4, .inl f_startsF))]) [0, 1, 2] rfl
      refine va_calli (va_runV (As := [.int p1, .int x_11]) (rest := []) ⟨hx, hb, hml, hown, hts⟩ (c_X2_kindIn l D cI cD cJ H.size f f_kinds f_signs f_sizes f_places f_limits f_starts f_sorts f_count f_sections f_fifth f_kindsF f_startsF p1 x_11 (by omega) (by omega) (by omega) (by assumption)) (cwV 2 hts (goodIn_app (goodIn_r _ [14, 15, 16, 4] rfl (by decide +kernel)) (goodIn_sub i_X2_kindIn k_X2_kindIn)) rfl rfl rfl (by decide +kernel) ⟨Nat.le_of_ble_eq_true rfl, Nat.le_of_ble_eq_true rfl⟩) ⟨fun a U g mk q => by obtain ⟨q0, qP, qK⟩ := q; exact ⟨q0, qP, va_K.moved (u := U) (U := U.calling g mk a) (Vm.Alike.refl U.vm) qK⟩, va_recv hK hPc (ci := 2) (q0 := 0) rfl rfl, fun U hU hW => ⟨rfl, by rw [hU]; exact hPc, va_K.moved hW.alike hK⟩⟩ rfl rfl hl.1 rfl (lv_room (Nat.le_of_ble_eq_true rfl)) dX5_isIllInNumber_126 ⟨Nat.le_of_ble_eq_true rfl, Nat.le_of_ble_eq_true rfl⟩) hS (fun q _ h => h.elim) (fun q h => h.elim) (fun x_12 u t H1 locs ht hvm w_13 hB hz1 hk1 hS => ?_)
      have hP : va_P D vwCl [(f, .inr (2, [.ref f_kinds, .ref f_signs, .ref f_sizes, .ref f_places, .ref f_limits, .ref f_starts, .ref f_sorts, .int f_count, .int f_sections, .int f_fifth])), (f_kinds, .inl (cI, 255, .inl f_kindsF)), (f_starts, .inl (cI, 4, .inl f_startsF))] H1 := hP.kept (fun k9 q9 h9 => hk1 q9.1 (vx_lt hP h9) (fun h => h))
      generalize H1 = H at hP hS ⊢
      have b_x_12 := ti_b x_12
      refine lv_iconst (v := 4) hx hb dX5_isIllInNumber_129 (by decide) ?_
      have K_145 : ∀ (H : Heap) (locs : List Loc) (ls : Array Slot), va_P D vwCl [(f, .inr (2, [.ref f_kinds, .ref f_signs, .ref f_sizes, .ref f_places, .ref f_limits, .ref f_starts, .ref f_sorts, .int f_count, .int f_sections, .int f_fifth])), (f_kinds, .inl (cI, 255, .inl f_kindsF)), (f_starts, .inl (cI, 4, .inl f_startsF))] H → va_S (fun _ => False) s.heap H locs → lv_has ls 4 [] → Z 0 0 H locs (F0 m 145 ls []) := by
        intro  H locs ls  hP hS hl
        refine hZ2 ?_
        refine lv_iconst (v := 1) hx hb dX5_isIllInNumber_145 (by decide) ?_
        refine lv_goto (tgt := 150) hx hb dX5_isIllInNumber_146 (by decide) ?_
        exact W.zret (v := 1) hx hb hr rfl (fun t ht hW => ⟨⟨1, (), rfl, (by (try dsimp only); first | omega | assumption), trivial⟩, hS.F ht⟩) hS.2.2 dX5_isIllInNumber_150
      refine lv_icmp_ne (tgt := 145) hx hb dX5_isIllInNumber_130 (by decide) (fun c_14 => ?_) (fun c_14 => ?_)
      · have ic_14 : ¬ ((x_12 : Int32).toInt = (4 : Int32).toInt) := fun h9 => c_14 ((fa_eq x_12 4).mpr h9)
        exact hZ1 (K_145  _ _ _ hP hS (lv_sub hl [] rfl))
      · have ic_14 : (x_12 : Int32).toInt = (4 : Int32).toInt := (fa_eq x_12 4).mp c_14
        refine lv_aload_n hx hb dX5_isIllInNumber_133 rfl (lv_at hl 0 rfl) ?_
        refine lv_iload_n hx hb dX5_isIllInNumber_134 rfl (lv_at hl 1 rfl) ?_
        refine lv_iload_n hx hb dX5_isIllInNumber_135 rfl (lv_at hl 2 rfl) ?_
        refine lv_iconst (v := 1) hx hb dX5_isIllInNumber_136 (by decide) ?_
        refine lv_iadd hx hb dX5_isIllInNumber_137 ?_
        refine lv_topi (fun x_15 ex_15 => ?_)
        have b_p2 := ti_b p2
        have tx_15 := ti_add ex_15
        have hPc := hP.sub (ws' := [(f, .inr (2, [.ref f_kinds, .ref f_signs, .ref f_sizes, .ref f_places, .ref f_limits, .ref f_starts, .ref f_sorts, .int f_count, .int f_sections, .int f_fifth])), (f_kinds, .inl (cI, 255, .inl f_kindsF)), (f_starts, .inl (cI, 4, .inl f_startsF))]) [0, 1, 2] rfl
        refine va_calli (va_runV (As := [.int p1, .int x_15]) (rest := []) ⟨hx, hb, hml, hown, hts⟩ (c_X2_kindIn l D cI cD cJ H.size f f_kinds f_signs f_sizes f_places f_limits f_starts f_sorts f_count f_sections f_fifth f_kindsF f_startsF p1 x_15 (by omega) (by omega) (by omega) (by assumption)) (cwV 2 hts (goodIn_app (goodIn_r _ [14, 15, 16, 4] rfl (by decide +kernel)) (goodIn_sub i_X2_kindIn k_X2_kindIn)) rfl rfl rfl (by decide +kernel) ⟨Nat.le_of_ble_eq_true rfl, Nat.le_of_ble_eq_true rfl⟩) ⟨fun a U g mk q => by obtain ⟨q0, qP, qK⟩ := q; exact ⟨q0, qP, va_K.moved (u := U) (U := U.calling g mk a) (Vm.Alike.refl U.vm) qK⟩, va_recv hK hPc (ci := 2) (q0 := 0) rfl rfl, fun U hU hW => ⟨rfl, by rw [hU]; exact hPc, va_K.moved hW.alike hK⟩⟩ rfl rfl hl.1 rfl (lv_room (Nat.le_of_ble_eq_true rfl)) dX5_isIllInNumber_138 ⟨Nat.le_of_ble_eq_true rfl, Nat.le_of_ble_eq_true rfl⟩) hS (fun q _ h => h.elim) (fun q h => h.elim) (fun x_16 u t H1 locs ht hvm w_17 hB hz1 hk1 hS => ?_)
        have hP : va_P D vwCl [(f, .inr (2, [.ref f_kinds, .ref f_signs, .ref f_sizes, .ref f_places, .ref f_limits, .ref f_starts, .ref f_sorts, .int f_count, .int f_sections, .int f_fifth])), (f_kinds, .inl (cI, 255, .inl f_kindsF)), (f_starts, .inl (cI, 4, .inl f_startsF))] H1 := hP.kept (fun k9 q9 h9 => hk1 q9.1 (vx_lt hP h9) (fun h => h))
        generalize H1 = H at hP hS ⊢
        have b_x_16 := ti_b x_16
        refine lv_iconst (v := 4) hx hb dX5_isIllInNumber_141 (by decide) ?_
        refine lv_icmp_eq (tgt := 149) hx hb dX5_isIllInNumber_142 (by decide) (fun c_18 => ?_) (fun c_18 => ?_)
        · have ic_18 : (x_16 : Int32).toInt = (4 : Int32).toInt := (fa_eq x_16 4).mp c_18
          refine lv_iconst (v := 0) hx hb dX5_isIllInNumber_149 (by decide) ?_
          exact W.zret (v := 0) hx hb hr rfl (fun t ht hW => ⟨⟨0, (), rfl, (by (try dsimp only); first | omega | assumption), trivial⟩, hS.F ht⟩) hS.2.2 dX5_isIllInNumber_150
        · have ic_18 : ¬ ((x_16 : Int32).toInt = (4 : Int32).toInt) := fun h9 => c_18 ((fa_eq x_16 4).mpr h9)
          exact hZ1 (K_145  _ _ _ hP hS (lv_sub hl [] rfl))
    · refine lv_tableIn (off := 108) (tgt := 153) hx hb dX5_isIllInNumber_45 (by omega) (by omega) (by rw [v_5]; rfl) (by decide) ?_
      refine lv_iconst (v := 0) hx hb dX5_isIllInNumber_153 (by decide) ?_
      exact W.zret (v := 0) hx hb hr rfl (fun t ht hW => ⟨⟨0, (), rfl, (by (try dsimp only); first | omega | assumption), trivial⟩, hS.F ht⟩) hS.2.2 dX5_isIllInNumber_154
    · refine lv_tableIn (off := 108) (tgt := 153) hx hb dX5_isIllInNumber_45 (by omega) (by omega) (by rw [v_5]; rfl) (by decide) ?_
      refine lv_iconst (v := 0) hx hb dX5_isIllInNumber_153 (by decide) ?_
      exact W.zret (v := 0) hx hb hr rfl (fun t ht hW => ⟨⟨0, (), rfl, (by (try dsimp only); first | omega | assumption), trivial⟩, hS.F ht⟩) hS.2.2 dX5_isIllInNumber_154
    · refine lv_tableIn (off := 108) (tgt := 153) hx hb dX5_isIllInNumber_45 (by omega) (by omega) (by rw [v_5]; rfl) (by decide) ?_
      refine lv_iconst (v := 0) hx hb dX5_isIllInNumber_153 (by decide) ?_
      exact W.zret (v := 0) hx hb hr rfl (fun t ht hW => ⟨⟨0, (), rfl, (by (try dsimp only); first | omega | assumption), trivial⟩, hS.F ht⟩) hS.2.2 dX5_isIllInNumber_154
    · refine lv_tableIn (off := 106) (tgt := 151) hx hb dX5_isIllInNumber_45 (by omega) (by omega) (by rw [v_5]; rfl) (by decide) ?_
      refine lv_iconst (v := 1) hx hb dX5_isIllInNumber_151 (by decide) ?_
      exact W.zret (v := 1) hx hb hr rfl (fun t ht hW => ⟨⟨1, (), rfl, (by (try dsimp only); first | omega | assumption), trivial⟩, hS.F ht⟩) hS.2.2 dX5_isIllInNumber_152
  refine lv_icmp_eq (tgt := 40) hx hb dX5_isIllInNumber_10 (by decide) (fun c_19 => ?_) (fun c_19 => ?_)
  · have ic_19 : (x_1 : Int32).toInt = ((-1) : Int32).toInt := (fa_eq x_1 (-1)).mp c_19
    exact hZ1 (K_40  _ _ _ hP hS (lv_sub hl [1, 2, 3] rfl))
  · have ic_19 : ¬ ((x_1 : Int32).toInt = ((-1) : Int32).toInt) := fun h9 => c_19 ((fa_eq x_1 (-1)).mpr h9)
    refine lv_iload_n hx hb dX5_isIllInNumber_13 rfl (lv_at hl 3 rfl) ?_
    refine lv_iload_n hx hb dX5_isIllInNumber_14 rfl (lv_at hl 0 rfl) ?_
    refine lv_icmp_le (tgt := 40) hx hb dX5_isIllInNumber_15 (by decide) (fun c_20 => ?_) (fun c_20 => ?_)
    · have ic_20 : (p2 : Int32).toInt ≤ (x_1 : Int32).toInt := (fa_le p2 x_1).mp c_20
      exact hZ1 (K_40  _ _ _ hP hS (lv_sub hl [1, 2, 3] rfl))
    · have ic_20 : ¬ ((p2 : Int32).toInt ≤ (x_1 : Int32).toInt) := fun h9 => c_20 ((fa_le p2 x_1).mpr h9)
      refine lv_aload_n hx hb dX5_isIllInNumber_18 rfl (lv_at hl 1 rfl) ?_
      refine lv_iload_n hx hb dX5_isIllInNumber_19 rfl (lv_at hl 3 rfl) ?_
      have hPc := hP.sub (ws' := [(f, .inr (2, [.ref f_kinds, .ref f_signs, .ref f_sizes, .ref f_places, .ref f_limits, .ref f_starts, .ref f_sorts, .int f_count, .int f_sections, .int f_fifth])), (f_kinds, .inl (cI, 255, .inl f_kindsF))]) [0, 1] rfl
      refine va_calli (va_runV (As := [.int p2]) (rest := []) ⟨hx, hb, hml, hown, hts⟩ (c_X2_kind l D cI cD cJ H.size f f_kinds f_signs f_sizes f_places f_limits f_starts f_sorts f_count f_sections f_fifth f_kindsF p2 (by omega) (by omega)) (cwV 1 hts (goodIn_app (goodIn_r _ [5, 6, 7, 4] rfl (by decide +kernel)) (goodIn_sub i_X2_kind k_X2_kind)) rfl rfl rfl (by decide +kernel) ⟨Nat.le_of_ble_eq_true rfl, Nat.le_of_ble_eq_true rfl⟩) ⟨fun a U g mk q => by obtain ⟨q0, qP, qK⟩ := q; exact ⟨q0, qP, va_K.moved (u := U) (U := U.calling g mk a) (Vm.Alike.refl U.vm) qK⟩, va_recv hK hPc (ci := 2) (q0 := 0) rfl rfl, fun U hU hW => ⟨rfl, by rw [hU]; exact hPc, va_K.moved hW.alike hK⟩⟩ rfl rfl hl.1 rfl (lv_room (Nat.le_of_ble_eq_true rfl)) dX5_isIllInNumber_20 ⟨Nat.le_of_ble_eq_true rfl, Nat.le_of_ble_eq_true rfl⟩) hS (fun q _ h => h.elim) (fun q h => h.elim) (fun x_21 u t H1 locs ht hvm w_22 hB hz1 hk1 hS => ?_)
      have hP : va_P D vwCl [(f, .inr (2, [.ref f_kinds, .ref f_signs, .ref f_sizes, .ref f_places, .ref f_limits, .ref f_starts, .ref f_sorts, .int f_count, .int f_sections, .int f_fifth])), (f_kinds, .inl (cI, 255, .inl f_kindsF)), (f_starts, .inl (cI, 4, .inl f_startsF))] H1 := hP.kept (fun k9 q9 h9 => hk1 q9.1 (vx_lt hP h9) (fun h => h))
      generalize H1 = H at hP hS ⊢
      have b_x_21 := ti_b x_21
      refine lv_iconst (v := 4) hx hb dX5_isIllInNumber_23 (by decide) ?_
      have K_34 : ∀ (H : Heap) (locs : List Loc) (ls : Array Slot), va_P D vwCl [(f, .inr (2, [.ref f_kinds, .ref f_signs, .ref f_sizes, .ref f_places, .ref f_limits, .ref f_starts, .ref f_sorts, .int f_count, .int f_sections, .int f_fifth])), (f_kinds, .inl (cI, 255, .inl f_kindsF)), (f_starts, .inl (cI, 4, .inl f_startsF))] H → va_S (fun _ => False) s.heap H locs → lv_has ls 4 [] → Z 0 0 H locs (F0 m 34 ls []) := by
        intro  H locs ls  hP hS hl
        refine hZ2 ?_
        refine lv_iconst (v := 1) hx hb dX5_isIllInNumber_34 (by decide) ?_
        refine lv_goto (tgt := 39) hx hb dX5_isIllInNumber_35 (by decide) ?_
        exact W.zret (v := 1) hx hb hr rfl (fun t ht hW => ⟨⟨1, (), rfl, (by (try dsimp only); first | omega | assumption), trivial⟩, hS.F ht⟩) hS.2.2 dX5_isIllInNumber_39
      refine lv_icmp_ne (tgt := 34) hx hb dX5_isIllInNumber_24 (by decide) (fun c_23 => ?_) (fun c_23 => ?_)
      · have ic_23 : ¬ ((x_21 : Int32).toInt = (4 : Int32).toInt) := fun h9 => c_23 ((fa_eq x_21 4).mpr h9)
        exact hZ1 (K_34  _ _ _ hP hS (lv_sub hl [] rfl))
      · have ic_23 : (x_21 : Int32).toInt = (4 : Int32).toInt := (fa_eq x_21 4).mp c_23
        refine lv_iload_n hx hb dX5_isIllInNumber_27 rfl (lv_at hl 3 rfl) ?_
        refine lv_iload_n hx hb dX5_isIllInNumber_28 rfl (lv_at hl 0 rfl) ?_
        refine lv_isub hx hb dX5_isIllInNumber_29 ?_
        refine lv_topi (fun x_24 ex_24 => ?_)
        have b_p2 := ti_b p2
        have b_x_1 := ti_b x_1
        have tx_24 := ti_sub ex_24
        refine lv_iconst (v := 3) hx hb dX5_isIllInNumber_30 (by decide) ?_
        refine lv_icmp_le (tgt := 38) hx hb dX5_isIllInNumber_31 (by decide) (fun c_25 => ?_) (fun c_25 => ?_)
        · have ic_25 : (x_24 : Int32).toInt ≤ (3 : Int32).toInt := (fa_le x_24 3).mp c_25
          refine lv_iconst (v := 0) hx hb dX5_isIllInNumber_38 (by decide) ?_
          exact W.zret (v := 0) hx hb hr rfl (fun t ht hW => ⟨⟨0, (), rfl, (by (try dsimp only); first | omega | assumption), trivial⟩, hS.F ht⟩) hS.2.2 dX5_isIllInNumber_39
        · have ic_25 : ¬ ((x_24 : Int32).toInt ≤ (3 : Int32).toInt) := fun h9 => c_25 ((fa_le x_24 3).mpr h9)
          exact hZ1 (K_34  _ _ _ hP hS (lv_sub hl [] rfl))

def ow_X5_isBelowSlash : List Cond := [Cond.methodLink RX5 59 yX2_to, Cond.instanceMethod yX2_to, Cond.selects RX2 yX2_to yX2_to, Cond.initialized RX2, Cond.methodLink RX5 102 yX2_rowFrom, Cond.instanceMethod yX2_rowFrom, Cond.selects RX2 yX2_rowFrom yX2_rowFrom]
def pw_X5_isBelowSlash : List Cond := Cond.code yX5_isBelowSlash cX5_isBelowSlash 4 (some .boolean) :: (ow_X5_isBelowSlash ++ (pw_X2_to ++ (pw_X2_rowFrom)))
set_option maxRecDepth 20000 in
theorem mo_X5_isBelowSlash : ∀ w ∈ ow_X5_isBelowSlash, w ∈ lw_tbl := by decide +kernel
set_option maxRecDepth 20000 in
theorem mc_X5_isBelowSlash : Cond.code yX5_isBelowSlash cX5_isBelowSlash 4 (some .boolean) ∈ lw_tbl := by decide +kernel
theorem m_X5_isBelowSlash : ∀ w ∈ pw_X5_isBelowSlash, w ∈ lw_tbl := List.forall_mem_cons.mpr ⟨mc_X5_isBelowSlash, (List.forall_mem_append.mpr ⟨mo_X5_isBelowSlash, (List.forall_mem_append.mpr ⟨m_X2_to, m_X2_rowFrom⟩)⟩)⟩
theorem ko_X5_isBelowSlash : ∀ w ∈ ow_X5_isBelowSlash, goodWord w = true := by decide +kernel
theorem k_X5_isBelowSlash : pw_X5_isBelowSlash.all goodWord = true := List.all_eq_true.mpr (List.forall_mem_cons.mpr ⟨by decide +kernel, (List.forall_mem_append.mpr ⟨ko_X5_isBelowSlash, (List.forall_mem_append.mpr ⟨(List.all_eq_true.mp k_X2_to), (List.all_eq_true.mp k_X2_rowFrom)⟩)⟩)⟩)
set_option maxHeartbeats 400000 in
set_option maxRecDepth 100000 in
theorem c_X5_isBelowSlash (l : Launch) (D : va_G) (cI cD cJ : ClassId) (sz : Nat) (f : Nat) (f_kinds : Nat) (f_signs : Nat) (f_sizes : Nat) (f_places : Nat) (f_limits : Nat) (f_starts : Nat) (f_sorts : Nat) (f_count : Int32) (f_sections : Int32) (f_fifth : Int32) (f_kindsF : Nat → Int32) (f_startsF : Nat → Int32) (p1 : Int32) (p2 : Int32) (p3 : Int32) (hs9 : p1.toInt ≤ 4) (h5 : -1 ≤ p3.toInt) (h6 : p3.toInt ≤ 254) (iv_f_count : 0 ≤ (f_count : Int32).toInt ∧ (f_count : Int32).toInt ≤ 255) (iv_f_sections : 0 ≤ (f_sections : Int32).toInt ∧ (f_sections : Int32).toInt ≤ 4) (iv_f_startsF : ∀ k9 : Nat, k9 < 4 → 0 ≤ (f_startsF k9).toInt ∧ (f_startsF k9).toInt ≤ 255) : Met l yX5_isBelowSlash pw_X5_isBelowSlash ({ frames := 2, cells := 0, slots := 0, locals := 45 }) (va_Pc [.ref f, .int p1, .int p2, .int p3] (fun U => va_P D vwCl [(f, .inr (2, [.ref f_kinds, .ref f_signs, .ref f_sizes, .ref f_places, .ref f_limits, .ref f_starts, .ref f_sorts, .int f_count, .int f_sections, .int f_fifth])), (f_kinds, .inl (cI, 255, .inl f_kindsF)), (f_starts, .inl (cI, 4, .inl f_startsF))] U.heap ∧ va_K D vwCl (ty3 cI cD cJ) U)) (va_Qi (fun (r : Int32) (u : Unit) => (r.toInt = 0 ∨ r.toInt = 1)) (fun _ _ => True) (fun _ => False)) 0 0 (fun _ => False) := by
  refine Met.ofW (cc := cX5_isBelowSlash) (maxL := 4) (ret := (some .boolean)) (by decide +kernel) rfl ?_
  intro p e s m args below meth c s₁ B hml hv
  obtain ⟨rfl, hP, hK⟩ := hv
  have hx := B.exec
  have hb := B.bytes
  have hr := B.returns
  have hts := atoms_spec (ws := pw_X5_isBelowSlash) B.pre
  have hown : s.vm.findClass RX5 = some m.cls := findClass_of_methodNamed B.named
  have hlocks := B.notSynchronized
  have hS : va_S (fun _ => False) s.heap s.heap [] := va_S.rf
  have hw : ∀ (k : Nat) (w : Cond), ow_X5_isBelowSlash[k]? = some w → w.before _ s = true := fun k w h => hts w (List.mem_cons_of_mem _ (have h9 := List.mem_of_getElem? h; List.mem_append_left _ h9))
  have i_X2_to : ∀ w ∈ pw_X2_to, w ∈ pw_X5_isBelowSlash := fun w h9 => List.mem_cons_of_mem _ (List.mem_append_right _ (List.mem_append_left _ h9))
  have i_X2_rowFrom : ∀ w ∈ pw_X2_rowFrom, w ∈ pw_X5_isBelowSlash := fun w h9 => List.mem_cons_of_mem _ (List.mem_append_right _ (List.mem_append_right _ (h9)))
  have n_0 : ((0 : Int32)).toInt = 0 := by decide
  have n_1 : ((1 : Int32)).toInt = 1 := by decide
  have n_3 : ((3 : Int32)).toInt = 3 := by decide
  have n_4 : ((4 : Int32)).toInt = 4 := by decide
  have hl := lv_entry ([.ref f, .int p1, .int p2, .int p3]) (n := 4) (Nat.le_of_ble_eq_true rfl)
  rw [lg_entry_eq]
  generalize (lg_sl ([.ref f, .int p1, .int p2, .int p3]) ++ List.replicate (4 - (lg_sl ([.ref f, .int p1, .int p2, .int p3])).length) Slot.unset).toArray = ls at hl ⊢
  have hl : lv_has ls 4 [(0, .ref f), (1, .int p1), (2, .int p2), (3, .int p3)] := hl
  have b_p1 := ti_b p1
  have b_p2 := ti_b p2
  have b_p3 := ti_b p3
  refine lv_iload_n hx hb dX5_isBelowSlash_0 rfl (lv_at hl 2 rfl) ?_
  refine lv_iload_n hx hb dX5_isBelowSlash_1 rfl (lv_at hl 3 rfl) ?_
  refine lv_isub hx hb dX5_isBelowSlash_2 ?_
  refine lv_topi (fun x_1 ex_1 => ?_)
  have b_p2 := ti_b p2
  have b_p3 := ti_b p3
  have tx_1 := ti_sub ex_1
  refine lv_iconst (v := 3) hx hb dX5_isBelowSlash_3 (by decide) ?_
  refine lv_icmp_gt (tgt := 30) hx hb dX5_isBelowSlash_4 (by decide) (fun c_2 => ?_) (fun c_2 => ?_)
  · have ic_2 : (3 : Int32).toInt < (x_1 : Int32).toInt := (fa_lt 3 x_1).mp c_2
    refine lv_iconst (v := 0) hx hb dX5_isBelowSlash_30 (by decide) ?_
    exact W.zret (v := 0) hx hb hr rfl (fun t ht hW => ⟨⟨0, (), rfl, (by (try dsimp only); first | omega | assumption), trivial⟩, hS.F ht⟩) hS.2.2 dX5_isBelowSlash_31
  · have ic_2 : ¬ ((3 : Int32).toInt < (x_1 : Int32).toInt) := fun h9 => c_2 ((fa_lt 3 x_1).mpr h9)
    refine lv_iload_n hx hb dX5_isBelowSlash_7 rfl (lv_at hl 2 rfl) ?_
    refine lv_iload_n hx hb dX5_isBelowSlash_8 rfl (lv_at hl 3 rfl) ?_
    refine lv_isub hx hb dX5_isBelowSlash_9 ?_
    refine lv_topi (fun x_3 ex_3 => ?_)
    have b_p2 := ti_b p2
    have b_p3 := ti_b p3
    have tx_3 := ti_sub ex_3
    refine lv_aload_n hx hb dX5_isBelowSlash_10 rfl (lv_at hl 0 rfl) ?_
    refine lv_iconst (v := 4) hx hb dX5_isBelowSlash_11 (by decide) ?_
    refine lv_iload_n hx hb dX5_isBelowSlash_12 rfl (lv_at hl 3 rfl) ?_
    refine lv_iconst (v := 1) hx hb dX5_isBelowSlash_13 (by decide) ?_
    refine lv_iadd hx hb dX5_isBelowSlash_14 ?_
    refine lv_topi (fun x_4 ex_4 => ?_)
    have b_p3 := ti_b p3
    have tx_4 := ti_add ex_4
    refine lv_aload_n hx hb dX5_isBelowSlash_15 rfl (lv_at hl 0 rfl) ?_
    refine lv_iload_n hx hb dX5_isBelowSlash_16 rfl (lv_at hl 1 rfl) ?_
    have hPc := hP.sub (ws' := [(f, .inr (2, [.ref f_kinds, .ref f_signs, .ref f_sizes, .ref f_places, .ref f_limits, .ref f_starts, .ref f_sorts, .int f_count, .int f_sections, .int f_fifth])), (f_starts, .inl (cI, 4, .inl f_startsF))]) [0, 2] rfl
    refine va_calli (va_runV (As := [.int p1]) (rest := [.int x_4, .int 4, .ref f, .int x_3]) ⟨hx, hb, hml, hown, hts⟩ (c_X2_to l D cI cD cJ s.heap.size f f_kinds f_signs f_sizes f_places f_limits f_starts f_sorts f_count f_sections f_fifth f_startsF p1 (by omega) (by omega) (by omega) (by assumption)) (cwV 1 hts (goodIn_app (goodIn_r _ [1, 2, 3, 4] rfl (by decide +kernel)) (goodIn_sub i_X2_to k_X2_to)) rfl rfl rfl (by decide +kernel) ⟨Nat.le_of_ble_eq_true rfl, Nat.le_of_ble_eq_true rfl⟩) ⟨fun a U g mk q => by obtain ⟨q0, qP, qK⟩ := q; exact ⟨q0, qP, va_K.moved (u := U) (U := U.calling g mk a) (Vm.Alike.refl U.vm) qK⟩, va_recv hK hPc (ci := 2) (q0 := 0) rfl rfl, fun U hU hW => ⟨rfl, by rw [hU]; exact hPc, va_K.moved hW.alike hK⟩⟩ rfl rfl hl.1 rfl (lv_room (Nat.le_of_ble_eq_true rfl)) dX5_isBelowSlash_17 ⟨Nat.le_of_ble_eq_true rfl, Nat.le_of_ble_eq_true rfl⟩) hS (fun q _ h => h.elim) (fun q h => h.elim) (fun x_5 u t H1 locs ht hvm w_6 hB hz1 hk1 hS => ?_)
    have hP : va_P D vwCl [(f, .inr (2, [.ref f_kinds, .ref f_signs, .ref f_sizes, .ref f_places, .ref f_limits, .ref f_starts, .ref f_sorts, .int f_count, .int f_sections, .int f_fifth])), (f_kinds, .inl (cI, 255, .inl f_kindsF)), (f_starts, .inl (cI, 4, .inl f_startsF))] H1 := hP.kept (fun k9 q9 h9 => hk1 q9.1 (vx_lt hP h9) (fun h => h))
    generalize H1 = H at hP hS ⊢
    try dsimp only at w_6
    have hPc := hP.sub (ws' := [(f, .inr (2, [.ref f_kinds, .ref f_signs, .ref f_sizes, .ref f_places, .ref f_limits, .ref f_starts, .ref f_sorts, .int f_count, .int f_sections, .int f_fifth])), (f_kinds, .inl (cI, 255, .inl f_kindsF))]) [0, 1] rfl
    refine va_calli (va_runV (As := [.int 4, .int x_4, .int x_5]) (rest := [.int x_3]) ⟨hx, hb, hml, hown, hts⟩ (c_X2_rowFrom l D cI cD cJ H.size f f_kinds f_signs f_sizes f_places f_limits f_starts f_sorts f_count f_sections f_fifth f_kindsF 4 x_4 x_5 (by omega) (by omega) (by omega) (by omega) (by omega)) (cwV 3 hts (goodIn_app (goodIn_r _ [5, 6, 7, 4] rfl (by decide +kernel)) (goodIn_sub i_X2_rowFrom k_X2_rowFrom)) rfl rfl rfl (by decide +kernel) ⟨Nat.le_of_ble_eq_true rfl, Nat.le_of_ble_eq_true rfl⟩) ⟨fun a U g mk q => by obtain ⟨q0, qP, qK⟩ := q; exact ⟨q0, qP, va_K.moved (u := U) (U := U.calling g mk a) (Vm.Alike.refl U.vm) qK⟩, va_recv hK hPc (ci := 2) (q0 := 0) rfl rfl, fun U hU hW => ⟨rfl, by rw [hU]; exact hPc, va_K.moved hW.alike hK⟩⟩ rfl rfl hl.1 rfl (lv_room (Nat.le_of_ble_eq_true rfl)) dX5_isBelowSlash_20 ⟨Nat.le_of_ble_eq_true rfl, Nat.le_of_ble_eq_true rfl⟩) hS (fun q _ h => h.elim) (fun q h => h.elim) (fun x_7 u t H1 locs ht hvm w_8 hB hz1 hk1 hS => ?_)
    have hP : va_P D vwCl [(f, .inr (2, [.ref f_kinds, .ref f_signs, .ref f_sizes, .ref f_places, .ref f_limits, .ref f_starts, .ref f_sorts, .int f_count, .int f_sections, .int f_fifth])), (f_kinds, .inl (cI, 255, .inl f_kindsF)), (f_starts, .inl (cI, 4, .inl f_startsF))] H1 := hP.kept (fun k9 q9 h9 => hk1 q9.1 (vx_lt hP h9) (fun h => h))
    generalize H1 = H at hP hS ⊢
    try dsimp only at w_8
    refine lv_icmp_gt (tgt := 30) hx hb dX5_isBelowSlash_23 (by decide) (fun c_9 => ?_) (fun c_9 => ?_)
    · have ic_9 : (x_7 : Int32).toInt < (x_3 : Int32).toInt := (fa_lt x_7 x_3).mp c_9
      refine lv_iconst (v := 0) hx hb dX5_isBelowSlash_30 (by decide) ?_
      exact W.zret (v := 0) hx hb hr rfl (fun t ht hW => ⟨⟨0, (), rfl, (by (try dsimp only); first | omega | assumption), trivial⟩, hS.F ht⟩) hS.2.2 dX5_isBelowSlash_31
    · have ic_9 : ¬ ((x_7 : Int32).toInt < (x_3 : Int32).toInt) := fun h9 => c_9 ((fa_lt x_7 x_3).mpr h9)
      refine lv_iconst (v := 1) hx hb dX5_isBelowSlash_26 (by decide) ?_
      refine lv_goto (tgt := 31) hx hb dX5_isBelowSlash_27 (by decide) ?_
      exact W.zret (v := 1) hx hb hr rfl (fun t ht hW => ⟨⟨1, (), rfl, (by (try dsimp only); first | omega | assumption), trivial⟩, hS.F ht⟩) hS.2.2 dX5_isBelowSlash_31

def ow_X5_isIllInFraction : List Cond := [Cond.methodLink RX5 45 yX2_findIn, Cond.instanceMethod yX2_findIn, Cond.selects RX2 yX2_findIn yX2_findIn, Cond.initialized RX2, Cond.methodLink RX5 62 yX2_kind, Cond.instanceMethod yX2_kind, Cond.selects RX2 yX2_kind yX2_kind, Cond.methodLink RX5 98 yX5_isBelowSlash, Cond.static yX5_isBelowSlash, Cond.initialized RX5]
def pw_X5_isIllInFraction : List Cond := Cond.code yX5_isIllInFraction cX5_isIllInFraction 4 (some .boolean) :: (ow_X5_isIllInFraction ++ (pw_X2_findIn ++ (pw_X2_kind ++ (pw_X5_isBelowSlash))))
set_option maxRecDepth 20000 in
theorem mo_X5_isIllInFraction : ∀ w ∈ ow_X5_isIllInFraction, w ∈ lw_tbl := by decide +kernel
set_option maxRecDepth 20000 in
theorem mc_X5_isIllInFraction : Cond.code yX5_isIllInFraction cX5_isIllInFraction 4 (some .boolean) ∈ lw_tbl := by decide +kernel
theorem m_X5_isIllInFraction : ∀ w ∈ pw_X5_isIllInFraction, w ∈ lw_tbl := List.forall_mem_cons.mpr ⟨mc_X5_isIllInFraction, (List.forall_mem_append.mpr ⟨mo_X5_isIllInFraction, (List.forall_mem_append.mpr ⟨m_X2_findIn, (List.forall_mem_append.mpr ⟨m_X2_kind, m_X5_isBelowSlash⟩)⟩)⟩)⟩
theorem ko_X5_isIllInFraction : ∀ w ∈ ow_X5_isIllInFraction, goodWord w = true := by decide +kernel
theorem k_X5_isIllInFraction : pw_X5_isIllInFraction.all goodWord = true := List.all_eq_true.mpr (List.forall_mem_cons.mpr ⟨by decide +kernel, (List.forall_mem_append.mpr ⟨ko_X5_isIllInFraction, (List.forall_mem_append.mpr ⟨(List.all_eq_true.mp k_X2_findIn), (List.forall_mem_append.mpr ⟨(List.all_eq_true.mp k_X2_kind), (List.all_eq_true.mp k_X5_isBelowSlash)⟩)⟩)⟩)⟩)
set_option maxHeartbeats 400000 in
set_option maxRecDepth 100000 in
theorem c_X5_isIllInFraction (l : Launch) (D : va_G) (cI cD cJ : ClassId) (sz : Nat) (f : Nat) (f_kinds : Nat) (f_signs : Nat) (f_sizes : Nat) (f_places : Nat) (f_limits : Nat) (f_starts : Nat) (f_sorts : Nat) (f_count : Int32) (f_sections : Int32) (f_fifth : Int32) (f_kindsF : Nat → Int32) (f_startsF : Nat → Int32) (p1 : Int32) (p2 : Int32) (hs9 : p1.toInt ≤ 4) (iv_f_count : 0 ≤ (f_count : Int32).toInt ∧ (f_count : Int32).toInt ≤ 255) (iv_f_sections : 0 ≤ (f_sections : Int32).toInt ∧ (f_sections : Int32).toInt ≤ 4) (iv_f_startsF : ∀ k9 : Nat, k9 < 4 → 0 ≤ (f_startsF k9).toInt ∧ (f_startsF k9).toInt ≤ 255) : Met l yX5_isIllInFraction pw_X5_isIllInFraction ({ frames := 3, cells := 0, slots := 0, locals := 68 }) (va_Pc [.ref f, .int p1, .int p2] (fun U => va_P D vwCl [(f, .inr (2, [.ref f_kinds, .ref f_signs, .ref f_sizes, .ref f_places, .ref f_limits, .ref f_starts, .ref f_sorts, .int f_count, .int f_sections, .int f_fifth])), (f_kinds, .inl (cI, 255, .inl f_kindsF)), (f_starts, .inl (cI, 4, .inl f_startsF))] U.heap ∧ va_K D vwCl (ty3 cI cD cJ) U)) (va_Qi (fun (r : Int32) (u : Unit) => (r.toInt = 0 ∨ r.toInt = 1)) (fun _ _ => True) (fun _ => False)) 0 0 (fun _ => False) := by
  refine Met.ofW (cc := cX5_isIllInFraction) (maxL := 4) (ret := (some .boolean)) (by decide +kernel) rfl ?_
  intro p e s m args below meth c s₁ B hml hv
  obtain ⟨rfl, hP, hK⟩ := hv
  have hx := B.exec
  have hb := B.bytes
  have hr := B.returns
  have hts := atoms_spec (ws := pw_X5_isIllInFraction) B.pre
  have hown : s.vm.findClass RX5 = some m.cls := findClass_of_methodNamed B.named
  have hlocks := B.notSynchronized
  have hS : va_S (fun _ => False) s.heap s.heap [] := va_S.rf
  have hw : ∀ (k : Nat) (w : Cond), ow_X5_isIllInFraction[k]? = some w → w.before _ s = true := fun k w h => hts w (List.mem_cons_of_mem _ (have h9 := List.mem_of_getElem? h; List.mem_append_left _ h9))
  have i_X2_findIn : ∀ w ∈ pw_X2_findIn, w ∈ pw_X5_isIllInFraction := fun w h9 => List.mem_cons_of_mem _ (List.mem_append_right _ (List.mem_append_left _ h9))
  have i_X2_kind : ∀ w ∈ pw_X2_kind, w ∈ pw_X5_isIllInFraction := fun w h9 => List.mem_cons_of_mem _ (List.mem_append_right _ (List.mem_append_right _ (List.mem_append_left _ h9)))
  have i_X5_isBelowSlash : ∀ w ∈ pw_X5_isBelowSlash, w ∈ pw_X5_isIllInFraction := fun w h9 => List.mem_cons_of_mem _ (List.mem_append_right _ (List.mem_append_right _ (List.mem_append_right _ (h9))))
  have n_0 : ((0 : Int32)).toInt = 0 := by decide
  have n_1 : ((1 : Int32)).toInt = 1 := by decide
  have n_8 : ((8 : Int32)).toInt = 8 := by decide
  have hl := lv_entry ([.ref f, .int p1, .int p2]) (n := 4) (Nat.le_of_ble_eq_true rfl)
  rw [lg_entry_eq]
  generalize (lg_sl ([.ref f, .int p1, .int p2]) ++ List.replicate (4 - (lg_sl ([.ref f, .int p1, .int p2])).length) Slot.unset).toArray = ls at hl ⊢
  have hl : lv_has ls 4 [(0, .ref f), (1, .int p1), (2, .int p2)] := hl
  have b_p1 := ti_b p1
  have b_p2 := ti_b p2
  refine lv_aload_n hx hb dX5_isIllInFraction_0 rfl (lv_at hl 0 rfl) ?_
  refine lv_iload_n hx hb dX5_isIllInFraction_1 rfl (lv_at hl 1 rfl) ?_
  refine lv_bipush (v := 8) hx hb dX5_isIllInFraction_2 (by decide) ?_
  have hPc := hP.sub (ws' := [(f, .inr (2, [.ref f_kinds, .ref f_signs, .ref f_sizes, .ref f_places, .ref f_limits, .ref f_starts, .ref f_sorts, .int f_count, .int f_sections, .int f_fifth])), (f_kinds, .inl (cI, 255, .inl f_kindsF)), (f_starts, .inl (cI, 4, .inl f_startsF))]) [0, 1, 2] rfl
  refine va_calli (va_runV (As := [.int p1, .int 8]) (rest := []) ⟨hx, hb, hml, hown, hts⟩ (c_X2_findIn l D cI cD cJ s.heap.size f f_kinds f_signs f_sizes f_places f_limits f_starts f_sorts f_count f_sections f_fifth f_kindsF f_startsF p1 8 (by omega) (by omega) (by omega) (by assumption)) (cwV 2 hts (goodIn_app (goodIn_r _ [1, 2, 3, 4] rfl (by decide +kernel)) (goodIn_sub i_X2_findIn k_X2_findIn)) rfl rfl rfl (by decide +kernel) ⟨Nat.le_of_ble_eq_true rfl, Nat.le_of_ble_eq_true rfl⟩) ⟨fun a U g mk q => by obtain ⟨q0, qP, qK⟩ := q; exact ⟨q0, qP, va_K.moved (u := U) (U := U.calling g mk a) (Vm.Alike.refl U.vm) qK⟩, va_recv hK hPc (ci := 2) (q0 := 0) rfl rfl, fun U hU hW => ⟨rfl, by rw [hU]; exact hPc, va_K.moved hW.alike hK⟩⟩ rfl rfl hl.1 rfl (lv_room (Nat.le_of_ble_eq_true rfl)) dX5_isIllInFraction_4 ⟨Nat.le_of_ble_eq_true rfl, Nat.le_of_ble_eq_true rfl⟩) hS (fun q _ h => h.elim) (fun q h => h.elim) (fun x_1 u t H1 locs ht hvm w_2 hB hz1 hk1 hS => ?_)
  have hP : va_P D vwCl [(f, .inr (2, [.ref f_kinds, .ref f_signs, .ref f_sizes, .ref f_places, .ref f_limits, .ref f_starts, .ref f_sorts, .int f_count, .int f_sections, .int f_fifth])), (f_kinds, .inl (cI, 255, .inl f_kindsF)), (f_starts, .inl (cI, 4, .inl f_startsF))] H1 := hP.kept (fun k9 q9 h9 => hk1 q9.1 (vx_lt hP h9) (fun h => h))
  generalize H1 = H at hP hS ⊢
  try dsimp only at w_2
  refine lv_istore_n (lv' := [(3, .int x_1), (0, .ref f), (1, .int p1), (2, .int p2)]) hx hb dX5_isIllInFraction_7 rfl hl (by decide) rfl (fun ls hl => ?_)
  refine lv_aload_n hx hb dX5_isIllInFraction_8 rfl (lv_at hl 1 rfl) ?_
  refine lv_iload_n hx hb dX5_isIllInFraction_9 rfl (lv_at hl 3 rfl) ?_
  have hPc := hP.sub (ws' := [(f, .inr (2, [.ref f_kinds, .ref f_signs, .ref f_sizes, .ref f_places, .ref f_limits, .ref f_starts, .ref f_sorts, .int f_count, .int f_sections, .int f_fifth])), (f_kinds, .inl (cI, 255, .inl f_kindsF))]) [0, 1] rfl
  refine va_calli (va_runV (As := [.int p2]) (rest := []) ⟨hx, hb, hml, hown, hts⟩ (c_X2_kind l D cI cD cJ H.size f f_kinds f_signs f_sizes f_places f_limits f_starts f_sorts f_count f_sections f_fifth f_kindsF p2 (by omega) (by omega)) (cwV 1 hts (goodIn_app (goodIn_r _ [5, 6, 7, 4] rfl (by decide +kernel)) (goodIn_sub i_X2_kind k_X2_kind)) rfl rfl rfl (by decide +kernel) ⟨Nat.le_of_ble_eq_true rfl, Nat.le_of_ble_eq_true rfl⟩) ⟨fun a U g mk q => by obtain ⟨q0, qP, qK⟩ := q; exact ⟨q0, qP, va_K.moved (u := U) (U := U.calling g mk a) (Vm.Alike.refl U.vm) qK⟩, va_recv hK hPc (ci := 2) (q0 := 0) rfl rfl, fun U hU hW => ⟨rfl, by rw [hU]; exact hPc, va_K.moved hW.alike hK⟩⟩ rfl rfl hl.1 rfl (lv_room (Nat.le_of_ble_eq_true rfl)) dX5_isIllInFraction_10 ⟨Nat.le_of_ble_eq_true rfl, Nat.le_of_ble_eq_true rfl⟩) hS (fun q _ h => h.elim) (fun q h => h.elim) (fun x_3 u t H1 locs ht hvm w_4 hB hz1 hk1 hS => ?_)
  have hP : va_P D vwCl [(f, .inr (2, [.ref f_kinds, .ref f_signs, .ref f_sizes, .ref f_places, .ref f_limits, .ref f_starts, .ref f_sorts, .int f_count, .int f_sections, .int f_fifth])), (f_kinds, .inl (cI, 255, .inl f_kindsF)), (f_starts, .inl (cI, 4, .inl f_startsF))] H1 := hP.kept (fun k9 q9 h9 => hk1 q9.1 (vx_lt hP h9) (fun h => h))
  generalize H1 = H at hP hS ⊢
  have b_x_3 := ti_b x_3
  rcases (show (x_3 : Int32).toInt < 4 ∨ 14 < (x_3 : Int32).toInt ∨ (x_3 : Int32).toInt = 4 ∨ (x_3 : Int32).toInt = 5 ∨ (x_3 : Int32).toInt = 6 ∨ (x_3 : Int32).toInt = 7 ∨ (x_3 : Int32).toInt = 8 ∨ (x_3 : Int32).toInt = 9 ∨ (x_3 : Int32).toInt = 10 ∨ (x_3 : Int32).toInt = 11 ∨ (x_3 : Int32).toInt = 12 ∨ (x_3 : Int32).toInt = 13 ∨ (x_3 : Int32).toInt = 14 by omega) with v_5 | v_5 | v_5 | v_5 | v_5 | v_5 | v_5 | v_5 | v_5 | v_5 | v_5 | v_5 | v_5
  · refine lv_tableOut (tgt := 119) hx hb dX5_isIllInFraction_13 (Or.inl v_5) (by decide) ?_
    refine lv_iconst (v := 0) hx hb dX5_isIllInFraction_119 (by decide) ?_
    exact W.zret (v := 0) hx hb hr rfl (fun t ht hW => ⟨⟨0, (), rfl, (by (try dsimp only); first | omega | assumption), trivial⟩, hS.F ht⟩) hS.2.2 dX5_isIllInFraction_120
  · refine lv_tableOut (tgt := 119) hx hb dX5_isIllInFraction_13 (Or.inr v_5) (by decide) ?_
    refine lv_iconst (v := 0) hx hb dX5_isIllInFraction_119 (by decide) ?_
    exact W.zret (v := 0) hx hb hr rfl (fun t ht hW => ⟨⟨0, (), rfl, (by (try dsimp only); first | omega | assumption), trivial⟩, hS.F ht⟩) hS.2.2 dX5_isIllInFraction_120
  · refine lv_tableIn (off := 85) (tgt := 98) hx hb dX5_isIllInFraction_13 (by omega) (by omega) (by rw [v_5]; rfl) (by decide) ?_
    refine lv_iload_n hx hb dX5_isIllInFraction_98 rfl (lv_at hl 3 rfl) ?_
    refine lv_iload_n hx hb dX5_isIllInFraction_99 rfl (lv_at hl 0 rfl) ?_
    refine lv_icmp_le (tgt := 117) hx hb dX5_isIllInFraction_100 (by decide) (fun c_6 => ?_) (fun c_6 => ?_)
    · have ic_6 : (p2 : Int32).toInt ≤ (x_1 : Int32).toInt := (fa_le p2 x_1).mp c_6
      refine lv_iconst (v := 0) hx hb dX5_isIllInFraction_117 (by decide) ?_
      exact W.zret (v := 0) hx hb hr rfl (fun t ht hW => ⟨⟨0, (), rfl, (by (try dsimp only); first | omega | assumption), trivial⟩, hS.F ht⟩) hS.2.2 dX5_isIllInFraction_118
    · have ic_6 : ¬ ((p2 : Int32).toInt ≤ (x_1 : Int32).toInt) := fun h9 => c_6 ((fa_le p2 x_1).mpr h9)
      refine lv_aload_n hx hb dX5_isIllInFraction_103 rfl (lv_at hl 1 rfl) ?_
      refine lv_iload_n hx hb dX5_isIllInFraction_104 rfl (lv_at hl 2 rfl) ?_
      refine lv_iload_n hx hb dX5_isIllInFraction_105 rfl (lv_at hl 3 rfl) ?_
      refine lv_iload_n hx hb dX5_isIllInFraction_106 rfl (lv_at hl 0 rfl) ?_
      have hPc := hP.sub (ws' := [(f, .inr (2, [.ref f_kinds, .ref f_signs, .ref f_sizes, .ref f_places, .ref f_limits, .ref f_starts, .ref f_sorts, .int f_count, .int f_sections, .int f_fifth])), (f_kinds, .inl (cI, 255, .inl f_kindsF)), (f_starts, .inl (cI, 4, .inl f_startsF))]) [0, 1, 2] rfl
      refine va_calli (va_runS (As := [.ref f, .int p1, .int p2, .int x_1]) (rest := []) ⟨hx, hb, hml, hown, hts⟩ (c_X5_isBelowSlash l D cI cD cJ H.size f f_kinds f_signs f_sizes f_places f_limits f_starts f_sorts f_count f_sections f_fifth f_kindsF f_startsF p1 p2 x_1 (by omega) (by omega) (by omega) (by omega) (by omega) (by assumption)) (va_cwS 4 hts (goodIn_app (goodIn_r _ [8, 9, 10] rfl (by decide +kernel)) (goodIn_sub i_X5_isBelowSlash k_X5_isBelowSlash)) rfl rfl rfl (by decide +kernel) ⟨Nat.le_of_ble_eq_true rfl, Nat.le_of_ble_eq_true rfl⟩) ⟨fun a U g mk q => by obtain ⟨q0, qP, qK⟩ := q; exact ⟨q0, qP, va_K.moved (u := U) (U := U.calling g mk a) (Vm.Alike.refl U.vm) qK⟩, fun U hU hW => ⟨rfl, by rw [hU]; exact hPc, va_K.moved hW.alike hK⟩⟩ rfl rfl hl.1 rfl (lv_room (Nat.le_of_ble_eq_true rfl)) dX5_isIllInFraction_107 ⟨Nat.le_of_ble_eq_true rfl, Nat.le_of_ble_eq_true rfl⟩) hS (fun q _ h => h.elim) (fun q h => h.elim) (fun x_7 u t H1 locs ht hvm w_8 hB hz1 hk1 hS => ?_)
      have hP : va_P D vwCl [(f, .inr (2, [.ref f_kinds, .ref f_signs, .ref f_sizes, .ref f_places, .ref f_limits, .ref f_starts, .ref f_sorts, .int f_count, .int f_sections, .int f_fifth])), (f_kinds, .inl (cI, 255, .inl f_kindsF)), (f_starts, .inl (cI, 4, .inl f_startsF))] H1 := hP.kept (fun k9 q9 h9 => hk1 q9.1 (vx_lt hP h9) (fun h => h))
      generalize H1 = H at hP hS ⊢
      try dsimp only at w_8
      have b_x_7 := ti_b x_7
      refine lv_if_ne (tgt := 117) hx hb dX5_isIllInFraction_110 (by decide) (fun c_9 => ?_) (fun c_9 => ?_)
      · have ic_9 : ¬ ((x_7 : Int32).toInt = (0 : Int32).toInt) := fun h9 => c_9 ((fa_eq x_7 0).mpr h9)
        refine lv_iconst (v := 0) hx hb dX5_isIllInFraction_117 (by decide) ?_
        exact W.zret (v := 0) hx hb hr rfl (fun t ht hW => ⟨⟨0, (), rfl, (by (try dsimp only); first | omega | assumption), trivial⟩, hS.F ht⟩) hS.2.2 dX5_isIllInFraction_118
      · have ic_9 : (x_7 : Int32).toInt = (0 : Int32).toInt := (fa_eq x_7 0).mp c_9
        refine lv_iconst (v := 1) hx hb dX5_isIllInFraction_113 (by decide) ?_
        refine lv_goto (tgt := 118) hx hb dX5_isIllInFraction_114 (by decide) ?_
        exact W.zret (v := 1) hx hb hr rfl (fun t ht hW => ⟨⟨1, (), rfl, (by (try dsimp only); first | omega | assumption), trivial⟩, hS.F ht⟩) hS.2.2 dX5_isIllInFraction_118
  · refine lv_tableIn (off := 59) (tgt := 72) hx hb dX5_isIllInFraction_13 (by omega) (by omega) (by rw [v_5]; rfl) (by decide) ?_
    refine lv_iconst (v := 1) hx hb dX5_isIllInFraction_72 (by decide) ?_
    exact W.zret (v := 1) hx hb hr rfl (fun t ht hW => ⟨⟨1, (), rfl, (by (try dsimp only); first | omega | assumption), trivial⟩, hS.F ht⟩) hS.2.2 dX5_isIllInFraction_73
  · refine lv_tableIn (off := 59) (tgt := 72) hx hb dX5_isIllInFraction_13 (by omega) (by omega) (by rw [v_5]; rfl) (by decide) ?_
    refine lv_iconst (v := 1) hx hb dX5_isIllInFraction_72 (by decide) ?_
    exact W.zret (v := 1) hx hb hr rfl (fun t ht hW => ⟨⟨1, (), rfl, (by (try dsimp only); first | omega | assumption), trivial⟩, hS.F ht⟩) hS.2.2 dX5_isIllInFraction_73
  · refine lv_tableIn (off := 59) (tgt := 72) hx hb dX5_isIllInFraction_13 (by omega) (by omega) (by rw [v_5]; rfl) (by decide) ?_
    refine lv_iconst (v := 1) hx hb dX5_isIllInFraction_72 (by decide) ?_
    exact W.zret (v := 1) hx hb hr rfl (fun t ht hW => ⟨⟨1, (), rfl, (by (try dsimp only); first | omega | assumption), trivial⟩, hS.F ht⟩) hS.2.2 dX5_isIllInFraction_73
  · refine lv_tableIn (off := 61) (tgt := 74) hx hb dX5_isIllInFraction_13 (by omega) (by omega) (by rw [v_5]; rfl) (by decide) ?_
    refine lv_iload_n hx hb dX5_isIllInFraction_74 rfl (lv_at hl 3 rfl) ?_
    refine lv_iload_n hx hb dX5_isIllInFraction_75 rfl (lv_at hl 0 rfl) ?_
    refine lv_icmp_eq (tgt := 83) hx hb dX5_isIllInFraction_76 (by decide) (fun c_10 => ?_) (fun c_10 => ?_)
    · have ic_10 : (p2 : Int32).toInt = (x_1 : Int32).toInt := (fa_eq p2 x_1).mp c_10
      refine lv_iconst (v := 0) hx hb dX5_isIllInFraction_83 (by decide) ?_
      exact W.zret (v := 0) hx hb hr rfl (fun t ht hW => ⟨⟨0, (), rfl, (by (try dsimp only); first | omega | assumption), trivial⟩, hS.F ht⟩) hS.2.2 dX5_isIllInFraction_84
    · have ic_10 : ¬ ((p2 : Int32).toInt = (x_1 : Int32).toInt) := fun h9 => c_10 ((fa_eq p2 x_1).mpr h9)
      refine lv_iconst (v := 1) hx hb dX5_isIllInFraction_79 (by decide) ?_
      refine lv_goto (tgt := 84) hx hb dX5_isIllInFraction_80 (by decide) ?_
      exact W.zret (v := 1) hx hb hr rfl (fun t ht hW => ⟨⟨1, (), rfl, (by (try dsimp only); first | omega | assumption), trivial⟩, hS.F ht⟩) hS.2.2 dX5_isIllInFraction_84
  · refine lv_tableIn (off := 106) (tgt := 119) hx hb dX5_isIllInFraction_13 (by omega) (by omega) (by rw [v_5]; rfl) (by decide) ?_
    refine lv_iconst (v := 0) hx hb dX5_isIllInFraction_119 (by decide) ?_
    exact W.zret (v := 0) hx hb hr rfl (fun t ht hW => ⟨⟨0, (), rfl, (by (try dsimp only); first | omega | assumption), trivial⟩, hS.F ht⟩) hS.2.2 dX5_isIllInFraction_120
  · refine lv_tableIn (off := 59) (tgt := 72) hx hb dX5_isIllInFraction_13 (by omega) (by omega) (by rw [v_5]; rfl) (by decide) ?_
    refine lv_iconst (v := 1) hx hb dX5_isIllInFraction_72 (by decide) ?_
    exact W.zret (v := 1) hx hb hr rfl (fun t ht hW => ⟨⟨1, (), rfl, (by (try dsimp only); first | omega | assumption), trivial⟩, hS.F ht⟩) hS.2.2 dX5_isIllInFraction_73
  · refine lv_tableIn (off := 106) (tgt := 119) hx hb dX5_isIllInFraction_13 (by omega) (by omega) (by rw [v_5]; rfl) (by decide) ?_
    refine lv_iconst (v := 0) hx hb dX5_isIllInFraction_119 (by decide) ?_
    exact W.zret (v := 0) hx hb hr rfl (fun t ht hW => ⟨⟨0, (), rfl, (by (try dsimp only); first | omega | assumption), trivial⟩, hS.F ht⟩) hS.2.2 dX5_isIllInFraction_120
  · refine lv_tableIn (off := 106) (tgt := 119) hx hb dX5_isIllInFraction_13 (by omega) (by omega) (by rw [v_5]; rfl) (by decide) ?_
    refine lv_iconst (v := 0) hx hb dX5_isIllInFraction_119 (by decide) ?_
    exact W.zret (v := 0) hx hb hr rfl (fun t ht hW => ⟨⟨0, (), rfl, (by (try dsimp only); first | omega | assumption), trivial⟩, hS.F ht⟩) hS.2.2 dX5_isIllInFraction_120
  · refine lv_tableIn (off := 106) (tgt := 119) hx hb dX5_isIllInFraction_13 (by omega) (by omega) (by rw [v_5]; rfl) (by decide) ?_
    refine lv_iconst (v := 0) hx hb dX5_isIllInFraction_119 (by decide) ?_
    exact W.zret (v := 0) hx hb hr rfl (fun t ht hW => ⟨⟨0, (), rfl, (by (try dsimp only); first | omega | assumption), trivial⟩, hS.F ht⟩) hS.2.2 dX5_isIllInFraction_120
  · refine lv_tableIn (off := 72) (tgt := 85) hx hb dX5_isIllInFraction_13 (by omega) (by omega) (by rw [v_5]; rfl) (by decide) ?_
    refine lv_iload_n hx hb dX5_isIllInFraction_85 rfl (lv_at hl 3 rfl) ?_
    refine lv_iload_n hx hb dX5_isIllInFraction_86 rfl (lv_at hl 0 rfl) ?_
    refine lv_iconst (v := 1) hx hb dX5_isIllInFraction_87 (by decide) ?_
    refine lv_iadd hx hb dX5_isIllInFraction_88 ?_
    refine lv_topi (fun x_11 ex_11 => ?_)
    have b_x_1 := ti_b x_1
    have tx_11 := ti_add ex_11
    refine lv_icmp_eq (tgt := 96) hx hb dX5_isIllInFraction_89 (by decide) (fun c_12 => ?_) (fun c_12 => ?_)
    · have ic_12 : (p2 : Int32).toInt = (x_11 : Int32).toInt := (fa_eq p2 x_11).mp c_12
      refine lv_iconst (v := 0) hx hb dX5_isIllInFraction_96 (by decide) ?_
      exact W.zret (v := 0) hx hb hr rfl (fun t ht hW => ⟨⟨0, (), rfl, (by (try dsimp only); first | omega | assumption), trivial⟩, hS.F ht⟩) hS.2.2 dX5_isIllInFraction_97
    · have ic_12 : ¬ ((p2 : Int32).toInt = (x_11 : Int32).toInt) := fun h9 => c_12 ((fa_eq p2 x_11).mpr h9)
      refine lv_iconst (v := 1) hx hb dX5_isIllInFraction_92 (by decide) ?_
      refine lv_goto (tgt := 97) hx hb dX5_isIllInFraction_93 (by decide) ?_
      exact W.zret (v := 1) hx hb hr rfl (fun t ht hW => ⟨⟨1, (), rfl, (by (try dsimp only); first | omega | assumption), trivial⟩, hS.F ht⟩) hS.2.2 dX5_isIllInFraction_97

def ow_X5_isIllInWords : List Cond := [Cond.methodLink RX5 62 yX2_kind, Cond.instanceMethod yX2_kind, Cond.selects RX2 yX2_kind yX2_kind, Cond.initialized RX2, Cond.methodLink RX5 56 yX2_from, Cond.instanceMethod yX2_from, Cond.selects RX2 yX2_from yX2_from, Cond.methodLink RX5 94 yX2_find, Cond.instanceMethod yX2_find, Cond.selects RX2 yX2_find yX2_find]
def pw_X5_isIllInWords : List Cond := Cond.code yX5_isIllInWords cX5_isIllInWords 3 (some .boolean) :: (ow_X5_isIllInWords ++ (pw_X2_kind ++ (pw_X2_from ++ (pw_X2_find))))
set_option maxRecDepth 20000 in
theorem mo_X5_isIllInWords : ∀ w ∈ ow_X5_isIllInWords, w ∈ lw_tbl := by decide +kernel
set_option maxRecDepth 20000 in
theorem mc_X5_isIllInWords : Cond.code yX5_isIllInWords cX5_isIllInWords 3 (some .boolean) ∈ lw_tbl := by decide +kernel
theorem m_X5_isIllInWords : ∀ w ∈ pw_X5_isIllInWords, w ∈ lw_tbl := List.forall_mem_cons.mpr ⟨mc_X5_isIllInWords, (List.forall_mem_append.mpr ⟨mo_X5_isIllInWords, (List.forall_mem_append.mpr ⟨m_X2_kind, (List.forall_mem_append.mpr ⟨m_X2_from, m_X2_find⟩)⟩)⟩)⟩
theorem ko_X5_isIllInWords : ∀ w ∈ ow_X5_isIllInWords, goodWord w = true := by decide +kernel
theorem k_X5_isIllInWords : pw_X5_isIllInWords.all goodWord = true := List.all_eq_true.mpr (List.forall_mem_cons.mpr ⟨by decide +kernel, (List.forall_mem_append.mpr ⟨ko_X5_isIllInWords, (List.forall_mem_append.mpr ⟨(List.all_eq_true.mp k_X2_kind), (List.forall_mem_append.mpr ⟨(List.all_eq_true.mp k_X2_from), (List.all_eq_true.mp k_X2_find)⟩)⟩)⟩)⟩)
set_option maxHeartbeats 400000 in
set_option maxRecDepth 100000 in
theorem c_X5_isIllInWords (l : Launch) (D : va_G) (cI cD cJ : ClassId) (sz : Nat) (f : Nat) (f_kinds : Nat) (f_signs : Nat) (f_sizes : Nat) (f_places : Nat) (f_limits : Nat) (f_starts : Nat) (f_sorts : Nat) (f_count : Int32) (f_sections : Int32) (f_fifth : Int32) (f_kindsF : Nat → Int32) (f_startsF : Nat → Int32) (p1 : Int32) (p2 : Int32) (hs9 : p1.toInt ≤ 4) (iv_f_count : 0 ≤ (f_count : Int32).toInt ∧ (f_count : Int32).toInt ≤ 255) (iv_f_sections : 0 ≤ (f_sections : Int32).toInt ∧ (f_sections : Int32).toInt ≤ 4) (iv_f_startsF : ∀ k9 : Nat, k9 < 4 → 0 ≤ (f_startsF k9).toInt ∧ (f_startsF k9).toInt ≤ 255) : Met l yX5_isIllInWords pw_X5_isIllInWords ({ frames := 2, cells := 0, slots := 0, locals := 45 }) (va_Pc [.ref f, .int p1, .int p2] (fun U => va_P D vwCl [(f, .inr (2, [.ref f_kinds, .ref f_signs, .ref f_sizes, .ref f_places, .ref f_limits, .ref f_starts, .ref f_sorts, .int f_count, .int f_sections, .int f_fifth])), (f_kinds, .inl (cI, 255, .inl f_kindsF)), (f_starts, .inl (cI, 4, .inl f_startsF))] U.heap ∧ va_K D vwCl (ty3 cI cD cJ) U)) (va_Qi (fun (r : Int32) (u : Unit) => (r.toInt = 0 ∨ r.toInt = 1)) (fun _ _ => True) (fun _ => False)) 0 0 (fun _ => False) := by
  refine Met.ofW (cc := cX5_isIllInWords) (maxL := 3) (ret := (some .boolean)) (by decide +kernel) rfl ?_
  intro p e s m args below meth c s₁ B hml hv
  obtain ⟨rfl, hP, hK⟩ := hv
  have hx := B.exec
  have hb := B.bytes
  have hr := B.returns
  have hts := atoms_spec (ws := pw_X5_isIllInWords) B.pre
  have hown : s.vm.findClass RX5 = some m.cls := findClass_of_methodNamed B.named
  have hlocks := B.notSynchronized
  have hS : va_S (fun _ => False) s.heap s.heap [] := va_S.rf
  have hw : ∀ (k : Nat) (w : Cond), ow_X5_isIllInWords[k]? = some w → w.before _ s = true := fun k w h => hts w (List.mem_cons_of_mem _ (have h9 := List.mem_of_getElem? h; List.mem_append_left _ h9))
  have i_X2_kind : ∀ w ∈ pw_X2_kind, w ∈ pw_X5_isIllInWords := fun w h9 => List.mem_cons_of_mem _ (List.mem_append_right _ (List.mem_append_left _ h9))
  have i_X2_from : ∀ w ∈ pw_X2_from, w ∈ pw_X5_isIllInWords := fun w h9 => List.mem_cons_of_mem _ (List.mem_append_right _ (List.mem_append_right _ (List.mem_append_left _ h9)))
  have i_X2_find : ∀ w ∈ pw_X2_find, w ∈ pw_X5_isIllInWords := fun w h9 => List.mem_cons_of_mem _ (List.mem_append_right _ (List.mem_append_right _ (List.mem_append_right _ (h9))))
  have n_m1 : (((-1) : Int32)).toInt = (-1) := by decide
  have n_0 : ((0 : Int32)).toInt = 0 := by decide
  have n_1 : ((1 : Int32)).toInt = 1 := by decide
  have n_11 : ((11 : Int32)).toInt = 11 := by decide
  have hl := lv_entry ([.ref f, .int p1, .int p2]) (n := 3) (Nat.le_of_ble_eq_true rfl)
  rw [lg_entry_eq]
  generalize (lg_sl ([.ref f, .int p1, .int p2]) ++ List.replicate (3 - (lg_sl ([.ref f, .int p1, .int p2])).length) Slot.unset).toArray = ls at hl ⊢
  have hl : lv_has ls 3 [(0, .ref f), (1, .int p1), (2, .int p2)] := hl
  have b_p1 := ti_b p1
  have b_p2 := ti_b p2
  refine lv_aload_n hx hb dX5_isIllInWords_0 rfl (lv_at hl 0 rfl) ?_
  refine lv_iload_n hx hb dX5_isIllInWords_1 rfl (lv_at hl 2 rfl) ?_
  have hPc := hP.sub (ws' := [(f, .inr (2, [.ref f_kinds, .ref f_signs, .ref f_sizes, .ref f_places, .ref f_limits, .ref f_starts, .ref f_sorts, .int f_count, .int f_sections, .int f_fifth])), (f_kinds, .inl (cI, 255, .inl f_kindsF))]) [0, 1] rfl
  refine va_calli (va_runV (As := [.int p2]) (rest := []) ⟨hx, hb, hml, hown, hts⟩ (c_X2_kind l D cI cD cJ s.heap.size f f_kinds f_signs f_sizes f_places f_limits f_starts f_sorts f_count f_sections f_fifth f_kindsF p2 (by omega) (by omega)) (cwV 1 hts (goodIn_app (goodIn_r _ [1, 2, 3, 4] rfl (by decide +kernel)) (goodIn_sub i_X2_kind k_X2_kind)) rfl rfl rfl (by decide +kernel) ⟨Nat.le_of_ble_eq_true rfl, Nat.le_of_ble_eq_true rfl⟩) ⟨fun a U g mk q => by obtain ⟨q0, qP, qK⟩ := q; exact ⟨q0, qP, va_K.moved (u := U) (U := U.calling g mk a) (Vm.Alike.refl U.vm) qK⟩, va_recv hK hPc (ci := 2) (q0 := 0) rfl rfl, fun U hU hW => ⟨rfl, by rw [hU]; exact hPc, va_K.moved hW.alike hK⟩⟩ rfl rfl hl.1 rfl (lv_room (Nat.le_of_ble_eq_true rfl)) dX5_isIllInWords_2 ⟨Nat.le_of_ble_eq_true rfl, Nat.le_of_ble_eq_true rfl⟩) hS (fun q _ h => h.elim) (fun q h => h.elim) (fun x_1 u t H1 locs ht hvm w_2 hB hz1 hk1 hS => ?_)
  have hP : va_P D vwCl [(f, .inr (2, [.ref f_kinds, .ref f_signs, .ref f_sizes, .ref f_places, .ref f_limits, .ref f_starts, .ref f_sorts, .int f_count, .int f_sections, .int f_fifth])), (f_kinds, .inl (cI, 255, .inl f_kindsF)), (f_starts, .inl (cI, 4, .inl f_startsF))] H1 := hP.kept (fun k9 q9 h9 => hk1 q9.1 (vx_lt hP h9) (fun h => h))
  generalize H1 = H at hP hS ⊢
  have b_x_1 := ti_b x_1
  rcases (show (x_1 : Int32).toInt = 4 ∨ (x_1 : Int32).toInt = 10 ∨ (x_1 : Int32).toInt = 11 ∨ (x_1 : Int32).toInt = 14 ∨ (¬ 4 = (x_1 : Int32).toInt ∧ ¬ 10 = (x_1 : Int32).toInt ∧ ¬ 11 = (x_1 : Int32).toInt ∧ ¬ 14 = (x_1 : Int32).toInt) by omega) with v_3 | v_3 | v_3 | v_3 | v_3
  · refine lv_lookup (off := 43) (tgt := 48) hx hb dX5_isIllInWords_5 (by decide +kernel) (by rw [v_3]; rfl) (by decide) ?_
    refine lv_iconst (v := 1) hx hb dX5_isIllInWords_48 (by decide) ?_
    exact W.zret (v := 1) hx hb hr rfl (fun t ht hW => ⟨⟨1, (), rfl, (by (try dsimp only); first | omega | assumption), trivial⟩, hS.F ht⟩) hS.2.2 dX5_isIllInWords_49
  · refine lv_lookup (off := 43) (tgt := 48) hx hb dX5_isIllInWords_5 (by decide +kernel) (by rw [v_3]; rfl) (by decide) ?_
    refine lv_iconst (v := 1) hx hb dX5_isIllInWords_48 (by decide) ?_
    exact W.zret (v := 1) hx hb hr rfl (fun t ht hW => ⟨⟨1, (), rfl, (by (try dsimp only); first | omega | assumption), trivial⟩, hS.F ht⟩) hS.2.2 dX5_isIllInWords_49
  · refine lv_lookup (off := 45) (tgt := 50) hx hb dX5_isIllInWords_5 (by decide +kernel) (by rw [v_3]; rfl) (by decide) ?_
    refine lv_aload_n hx hb dX5_isIllInWords_50 rfl (lv_at hl 0 rfl) ?_
    refine lv_bipush (v := 11) hx hb dX5_isIllInWords_51 (by decide) ?_
    refine lv_aload_n hx hb dX5_isIllInWords_53 rfl (lv_at hl 0 rfl) ?_
    refine lv_iload_n hx hb dX5_isIllInWords_54 rfl (lv_at hl 1 rfl) ?_
    have hPc := hP.sub (ws' := [(f, .inr (2, [.ref f_kinds, .ref f_signs, .ref f_sizes, .ref f_places, .ref f_limits, .ref f_starts, .ref f_sorts, .int f_count, .int f_sections, .int f_fifth])), (f_starts, .inl (cI, 4, .inl f_startsF))]) [0, 2] rfl
    refine va_calli (va_runV (As := [.int p1]) (rest := [.int 11, .ref f]) ⟨hx, hb, hml, hown, hts⟩ (c_X2_from l D cI cD cJ H.size f f_kinds f_signs f_sizes f_places f_limits f_starts f_sorts f_count f_sections f_fifth f_startsF p1 (by omega) (by omega) (by assumption)) (cwV 1 hts (goodIn_app (goodIn_r _ [5, 6, 7, 4] rfl (by decide +kernel)) (goodIn_sub i_X2_from k_X2_from)) rfl rfl rfl (by decide +kernel) ⟨Nat.le_of_ble_eq_true rfl, Nat.le_of_ble_eq_true rfl⟩) ⟨fun a U g mk q => by obtain ⟨q0, qP, qK⟩ := q; exact ⟨q0, qP, va_K.moved (u := U) (U := U.calling g mk a) (Vm.Alike.refl U.vm) qK⟩, va_recv hK hPc (ci := 2) (q0 := 0) rfl rfl, fun U hU hW => ⟨rfl, by rw [hU]; exact hPc, va_K.moved hW.alike hK⟩⟩ rfl rfl hl.1 rfl (lv_room (Nat.le_of_ble_eq_true rfl)) dX5_isIllInWords_55 ⟨Nat.le_of_ble_eq_true rfl, Nat.le_of_ble_eq_true rfl⟩) hS (fun q _ h => h.elim) (fun q h => h.elim) (fun x_4 u t H1 locs ht hvm w_5 hB hz1 hk1 hS => ?_)
    have hP : va_P D vwCl [(f, .inr (2, [.ref f_kinds, .ref f_signs, .ref f_sizes, .ref f_places, .ref f_limits, .ref f_starts, .ref f_sorts, .int f_count, .int f_sections, .int f_fifth])), (f_kinds, .inl (cI, 255, .inl f_kindsF)), (f_starts, .inl (cI, 4, .inl f_startsF))] H1 := hP.kept (fun k9 q9 h9 => hk1 q9.1 (vx_lt hP h9) (fun h => h))
    generalize H1 = H at hP hS ⊢
    try dsimp only at w_5
    refine lv_iload_n hx hb dX5_isIllInWords_58 rfl (lv_at hl 2 rfl) ?_
    have hPc := hP.sub (ws' := [(f, .inr (2, [.ref f_kinds, .ref f_signs, .ref f_sizes, .ref f_places, .ref f_limits, .ref f_starts, .ref f_sorts, .int f_count, .int f_sections, .int f_fifth])), (f_kinds, .inl (cI, 255, .inl f_kindsF))]) [0, 1] rfl
    refine va_calli (va_runV (As := [.int 11, .int x_4, .int p2]) (rest := []) ⟨hx, hb, hml, hown, hts⟩ (c_X2_find l D cI cD cJ H.size f f_kinds f_signs f_sizes f_places f_limits f_starts f_sorts f_count f_sections f_fifth f_kindsF 11 x_4 p2 (by omega) (by omega)) (cwV 3 hts (goodIn_app (goodIn_r _ [8, 9, 10, 4] rfl (by decide +kernel)) (goodIn_sub i_X2_find k_X2_find)) rfl rfl rfl (by decide +kernel) ⟨Nat.le_of_ble_eq_true rfl, Nat.le_of_ble_eq_true rfl⟩) ⟨fun a U g mk q => by obtain ⟨q0, qP, qK⟩ := q; exact ⟨q0, qP, va_K.moved (u := U) (U := U.calling g mk a) (Vm.Alike.refl U.vm) qK⟩, va_recv hK hPc (ci := 2) (q0 := 0) rfl rfl, fun U hU hW => ⟨rfl, by rw [hU]; exact hPc, va_K.moved hW.alike hK⟩⟩ rfl rfl hl.1 rfl (lv_room (Nat.le_of_ble_eq_true rfl)) dX5_isIllInWords_59 ⟨Nat.le_of_ble_eq_true rfl, Nat.le_of_ble_eq_true rfl⟩) hS (fun q _ h => h.elim) (fun q h => h.elim) (fun x_6 u t H1 locs ht hvm w_7 hB hz1 hk1 hS => ?_)
    have hP : va_P D vwCl [(f, .inr (2, [.ref f_kinds, .ref f_signs, .ref f_sizes, .ref f_places, .ref f_limits, .ref f_starts, .ref f_sorts, .int f_count, .int f_sections, .int f_fifth])), (f_kinds, .inl (cI, 255, .inl f_kindsF)), (f_starts, .inl (cI, 4, .inl f_startsF))] H1 := hP.kept (fun k9 q9 h9 => hk1 q9.1 (vx_lt hP h9) (fun h => h))
    generalize H1 = H at hP hS ⊢
    try dsimp only at w_7
    refine lv_iconst (v := (-1)) hx hb dX5_isIllInWords_62 (by decide) ?_
    refine lv_icmp_eq (tgt := 70) hx hb dX5_isIllInWords_63 (by decide) (fun c_8 => ?_) (fun c_8 => ?_)
    · have ic_8 : (x_6 : Int32).toInt = ((-1) : Int32).toInt := (fa_eq x_6 (-1)).mp c_8
      refine lv_iconst (v := 0) hx hb dX5_isIllInWords_70 (by decide) ?_
      exact W.zret (v := 0) hx hb hr rfl (fun t ht hW => ⟨⟨0, (), rfl, (by (try dsimp only); first | omega | assumption), trivial⟩, hS.F ht⟩) hS.2.2 dX5_isIllInWords_71
    · have ic_8 : ¬ ((x_6 : Int32).toInt = ((-1) : Int32).toInt) := fun h9 => c_8 ((fa_eq x_6 (-1)).mpr h9)
      refine lv_iconst (v := 1) hx hb dX5_isIllInWords_66 (by decide) ?_
      refine lv_goto (tgt := 71) hx hb dX5_isIllInWords_67 (by decide) ?_
      exact W.zret (v := 1) hx hb hr rfl (fun t ht hW => ⟨⟨1, (), rfl, (by (try dsimp only); first | omega | assumption), trivial⟩, hS.F ht⟩) hS.2.2 dX5_isIllInWords_71
  · refine lv_lookup (off := 43) (tgt := 48) hx hb dX5_isIllInWords_5 (by decide +kernel) (by rw [v_3]; rfl) (by decide) ?_
    refine lv_iconst (v := 1) hx hb dX5_isIllInWords_48 (by decide) ?_
    exact W.zret (v := 1) hx hb hr rfl (fun t ht hW => ⟨⟨1, (), rfl, (by (try dsimp only); first | omega | assumption), trivial⟩, hS.F ht⟩) hS.2.2 dX5_isIllInWords_49
  · obtain ⟨v_3_0, v_3_1, v_3_2, v_3_3⟩ := v_3
    refine lv_lookup (off := 67) (tgt := 72) hx hb dX5_isIllInWords_5 (by decide +kernel) (by rw [Op.lookupswitch.offset_cons, if_neg v_3_0]; rw [Op.lookupswitch.offset_cons, if_neg v_3_1]; rw [Op.lookupswitch.offset_cons, if_neg v_3_2]; rw [Op.lookupswitch.offset_cons, if_neg v_3_3];  rfl) (by decide) ?_
    refine lv_iconst (v := 0) hx hb dX5_isIllInWords_72 (by decide) ?_
    exact W.zret (v := 0) hx hb hr rfl (fun t ht hW => ⟨⟨0, (), rfl, (by (try dsimp only); first | omega | assumption), trivial⟩, hS.F ht⟩) hS.2.2 dX5_isIllInWords_73

def ow_X5_isIll : List Cond := [Cond.methodLink RX5 62 yX2_kind, Cond.instanceMethod yX2_kind, Cond.selects RX2 yX2_kind yX2_kind, Cond.initialized RX2, Cond.methodLink RX5 25 yX2_sort, Cond.instanceMethod yX2_sort, Cond.selects RX2 yX2_sort yX2_sort, Cond.methodLink RX5 91 yX5_isIllInWords, Cond.static yX5_isIllInWords, Cond.initialized RX5, Cond.methodLink RX5 81 yX5_isIllInDate, Cond.static yX5_isIllInDate, Cond.methodLink RX5 85 yX5_isIllInNumber, Cond.static yX5_isIllInNumber, Cond.methodLink RX5 88 yX5_isIllInFraction, Cond.static yX5_isIllInFraction, Cond.methodLink RX5 56 yX2_from, Cond.instanceMethod yX2_from, Cond.selects RX2 yX2_from yX2_from]
def pw_X5_isIll : List Cond := Cond.code yX5_isIll cX5_isIll 4 (some .boolean) :: (ow_X5_isIll ++ (pw_X2_kind ++ (pw_X2_sort ++ (pw_X5_isIllInWords ++ (pw_X5_isIllInDate ++ (pw_X5_isIllInNumber ++ (pw_X5_isIllInFraction ++ (pw_X2_from))))))))
set_option maxRecDepth 20000 in
theorem mo_X5_isIll : ∀ w ∈ ow_X5_isIll, w ∈ lw_tbl := by decide +kernel
set_option maxRecDepth 20000 in
theorem mc_X5_isIll : Cond.code yX5_isIll cX5_isIll 4 (some .boolean) ∈ lw_tbl := by decide +kernel
theorem m_X5_isIll : ∀ w ∈ pw_X5_isIll, w ∈ lw_tbl := List.forall_mem_cons.mpr ⟨mc_X5_isIll, (List.forall_mem_append.mpr ⟨mo_X5_isIll, (List.forall_mem_append.mpr ⟨m_X2_kind, (List.forall_mem_append.mpr ⟨m_X2_sort, (List.forall_mem_append.mpr ⟨m_X5_isIllInWords, (List.forall_mem_append.mpr ⟨m_X5_isIllInDate, (List.forall_mem_append.mpr ⟨m_X5_isIllInNumber, (List.forall_mem_append.mpr ⟨m_X5_isIllInFraction, m_X2_from⟩)⟩)⟩)⟩)⟩)⟩)⟩)⟩
theorem ko_X5_isIll : ∀ w ∈ ow_X5_isIll, goodWord w = true := by decide +kernel
theorem k_X5_isIll : pw_X5_isIll.all goodWord = true := List.all_eq_true.mpr (List.forall_mem_cons.mpr ⟨by decide +kernel, (List.forall_mem_append.mpr ⟨ko_X5_isIll, (List.forall_mem_append.mpr ⟨(List.all_eq_true.mp k_X2_kind), (List.forall_mem_append.mpr ⟨(List.all_eq_true.mp k_X2_sort), (List.forall_mem_append.mpr ⟨(List.all_eq_true.mp k_X5_isIllInWords), (List.forall_mem_append.mpr ⟨(List.all_eq_true.mp k_X5_isIllInDate), (List.forall_mem_append.mpr ⟨(List.all_eq_true.mp k_X5_isIllInNumber), (List.forall_mem_append.mpr ⟨(List.all_eq_true.mp k_X5_isIllInFraction), (List.all_eq_true.mp k_X2_from)⟩)⟩)⟩)⟩)⟩)⟩)⟩)⟩)
set_option maxHeartbeats 400000 in
set_option maxRecDepth 100000 in
theorem c_X5_isIll (l : Launch) (D : va_G) (cI cD cJ : ClassId) (sz : Nat) (f : Nat) (f_kinds : Nat) (f_signs : Nat) (f_sizes : Nat) (f_places : Nat) (f_limits : Nat) (f_starts : Nat) (f_sorts : Nat) (f_count : Int32) (f_sections : Int32) (f_fifth : Int32) (f_kindsF : Nat → Int32) (f_startsF : Nat → Int32) (f_sortsF : Nat → Int32) (p1 : Int32) (p2 : Int32) (hs9 : p1.toInt ≤ 4) (iv_f_count : 0 ≤ (f_count : Int32).toInt ∧ (f_count : Int32).toInt ≤ 255) (iv_f_sections : 0 ≤ (f_sections : Int32).toInt ∧ (f_sections : Int32).toInt ≤ 4) (iv_f_startsF : ∀ k9 : Nat, k9 < 4 → 0 ≤ (f_startsF k9).toInt ∧ (f_startsF k9).toInt ≤ 255) : Met l yX5_isIll pw_X5_isIll ({ frames := 4, cells := 0, slots := 0, locals := 91 }) (va_Pc [.ref f, .int p1, .int p2] (fun U => va_P D vwCl [(f, .inr (2, [.ref f_kinds, .ref f_signs, .ref f_sizes, .ref f_places, .ref f_limits, .ref f_starts, .ref f_sorts, .int f_count, .int f_sections, .int f_fifth])), (f_kinds, .inl (cI, 255, .inl f_kindsF)), (f_starts, .inl (cI, 4, .inl f_startsF)), (f_sorts, .inl (cI, 4, .inl f_sortsF))] U.heap ∧ va_K D vwCl (ty3 cI cD cJ) U)) (va_Qi (fun (r : Int32) (u : Unit) => (r.toInt = 0 ∨ r.toInt = 1)) (fun _ _ => True) (fun _ => False)) 0 0 (fun _ => False) := by
  refine Met.ofW (cc := cX5_isIll) (maxL := 4) (ret := (some .boolean)) (by decide +kernel) rfl ?_
  intro p e s m args below meth c s₁ B hml hv
  obtain ⟨rfl, hP, hK⟩ := hv
  have hx := B.exec
  have hb := B.bytes
  have hr := B.returns
  have hts := atoms_spec (ws := pw_X5_isIll) B.pre
  have hown : s.vm.findClass RX5 = some m.cls := findClass_of_methodNamed B.named
  have hlocks := B.notSynchronized
  have hS : va_S (fun _ => False) s.heap s.heap [] := va_S.rf
  have hw : ∀ (k : Nat) (w : Cond), ow_X5_isIll[k]? = some w → w.before _ s = true := fun k w h => hts w (List.mem_cons_of_mem _ (have h9 := List.mem_of_getElem? h; List.mem_append_left _ h9))
  have i_X2_kind : ∀ w ∈ pw_X2_kind, w ∈ pw_X5_isIll := fun w h9 => List.mem_cons_of_mem _ (List.mem_append_right _ (List.mem_append_left _ h9))
  have i_X2_sort : ∀ w ∈ pw_X2_sort, w ∈ pw_X5_isIll := fun w h9 => List.mem_cons_of_mem _ (List.mem_append_right _ (List.mem_append_right _ (List.mem_append_left _ h9)))
  have i_X5_isIllInWords : ∀ w ∈ pw_X5_isIllInWords, w ∈ pw_X5_isIll := fun w h9 => List.mem_cons_of_mem _ (List.mem_append_right _ (List.mem_append_right _ (List.mem_append_right _ (List.mem_append_left _ h9))))
  have i_X5_isIllInDate : ∀ w ∈ pw_X5_isIllInDate, w ∈ pw_X5_isIll := fun w h9 => List.mem_cons_of_mem _ (List.mem_append_right _ (List.mem_append_right _ (List.mem_append_right _ (List.mem_append_right _ (List.mem_append_left _ h9)))))
  have i_X5_isIllInNumber : ∀ w ∈ pw_X5_isIllInNumber, w ∈ pw_X5_isIll := fun w h9 => List.mem_cons_of_mem _ (List.mem_append_right _ (List.mem_append_right _ (List.mem_append_right _ (List.mem_append_right _ (List.mem_append_right _ (List.mem_append_left _ h9))))))
  have i_X5_isIllInFraction : ∀ w ∈ pw_X5_isIllInFraction, w ∈ pw_X5_isIll := fun w h9 => List.mem_cons_of_mem _ (List.mem_append_right _ (List.mem_append_right _ (List.mem_append_right _ (List.mem_append_right _ (List.mem_append_right _ (List.mem_append_right _ (List.mem_append_left _ h9)))))))
  have i_X2_from : ∀ w ∈ pw_X2_from, w ∈ pw_X5_isIll := fun w h9 => List.mem_cons_of_mem _ (List.mem_append_right _ (List.mem_append_right _ (List.mem_append_right _ (List.mem_append_right _ (List.mem_append_right _ (List.mem_append_right _ (List.mem_append_right _ (h9))))))))
  have n_0 : ((0 : Int32)).toInt = 0 := by decide
  have n_1 : ((1 : Int32)).toInt = 1 := by decide
  have n_2 : ((2 : Int32)).toInt = 2 := by decide
  have hl := lv_entry ([.ref f, .int p1, .int p2]) (n := 4) (Nat.le_of_ble_eq_true rfl)
  rw [lg_entry_eq]
  generalize (lg_sl ([.ref f, .int p1, .int p2]) ++ List.replicate (4 - (lg_sl ([.ref f, .int p1, .int p2])).length) Slot.unset).toArray = ls at hl ⊢
  have hl : lv_has ls 4 [(0, .ref f), (1, .int p1), (2, .int p2)] := hl
  have b_p1 := ti_b p1
  have b_p2 := ti_b p2
  refine zz_cap (fun Z hZ1 hZ2 => ?_)
  refine lv_aload_n hx hb dX5_isIll_0 rfl (lv_at hl 0 rfl) ?_
  refine lv_iload_n hx hb dX5_isIll_1 rfl (lv_at hl 2 rfl) ?_
  have hPc := hP.sub (ws' := [(f, .inr (2, [.ref f_kinds, .ref f_signs, .ref f_sizes, .ref f_places, .ref f_limits, .ref f_starts, .ref f_sorts, .int f_count, .int f_sections, .int f_fifth])), (f_kinds, .inl (cI, 255, .inl f_kindsF))]) [0, 1] rfl
  refine va_calli (va_runV (As := [.int p2]) (rest := []) ⟨hx, hb, hml, hown, hts⟩ (c_X2_kind l D cI cD cJ s.heap.size f f_kinds f_signs f_sizes f_places f_limits f_starts f_sorts f_count f_sections f_fifth f_kindsF p2 (by omega) (by omega)) (cwV 1 hts (goodIn_app (goodIn_r _ [1, 2, 3, 4] rfl (by decide +kernel)) (goodIn_sub i_X2_kind k_X2_kind)) rfl rfl rfl (by decide +kernel) ⟨Nat.le_of_ble_eq_true rfl, Nat.le_of_ble_eq_true rfl⟩) ⟨fun a U g mk q => by obtain ⟨q0, qP, qK⟩ := q; exact ⟨q0, qP, va_K.moved (u := U) (U := U.calling g mk a) (Vm.Alike.refl U.vm) qK⟩, va_recv hK hPc (ci := 2) (q0 := 0) rfl rfl, fun U hU hW => ⟨rfl, by rw [hU]; exact hPc, va_K.moved hW.alike hK⟩⟩ rfl rfl hl.1 rfl (lv_room (Nat.le_of_ble_eq_true rfl)) dX5_isIll_2 ⟨Nat.le_of_ble_eq_true rfl, Nat.le_of_ble_eq_true rfl⟩) hS (fun q _ h => h.elim) (fun q h => h.elim) (fun x_1 u t H1 locs ht hvm w_2 hB hz1 hk1 hS => ?_)
  have hP : va_P D vwCl [(f, .inr (2, [.ref f_kinds, .ref f_signs, .ref f_sizes, .ref f_places, .ref f_limits, .ref f_starts, .ref f_sorts, .int f_count, .int f_sections, .int f_fifth])), (f_kinds, .inl (cI, 255, .inl f_kindsF)), (f_starts, .inl (cI, 4, .inl f_startsF)), (f_sorts, .inl (cI, 4, .inl f_sortsF))] H1 := hP.kept (fun k9 q9 h9 => hk1 q9.1 (vx_lt hP h9) (fun h => h))
  generalize H1 = H at hP hS ⊢
  have b_x_1 := ti_b x_1
  refine lv_istore_n (lv' := [(3, .int x_1), (0, .ref f), (1, .int p1), (2, .int p2)]) hx hb dX5_isIll_5 rfl hl (by decide) rfl (fun ls hl => ?_)
  refine lv_iload_n hx hb dX5_isIll_6 rfl (lv_at hl 0 rfl) ?_
  refine lv_if_ne (tgt := 12) hx hb dX5_isIll_7 (by decide) (fun c_3 => ?_) (fun c_3 => ?_)
  · have ic_3 : ¬ ((x_1 : Int32).toInt = (0 : Int32).toInt) := fun h9 => c_3 ((fa_eq x_1 0).mpr h9)
    refine lv_iload_n hx hb dX5_isIll_12 rfl (lv_at hl 0 rfl) ?_
    refine lv_iconst (v := 2) hx hb dX5_isIll_13 (by decide) ?_
    refine lv_icmp_ne (tgt := 37) hx hb dX5_isIll_14 (by decide) (fun c_4 => ?_) (fun c_4 => ?_)
    · have ic_4 : ¬ ((x_1 : Int32).toInt = (2 : Int32).toInt) := fun h9 => c_4 ((fa_eq x_1 2).mpr h9)
      refine lv_aload_n hx hb dX5_isIll_37 rfl (lv_at hl 1 rfl) ?_
      refine lv_iload_n hx hb dX5_isIll_38 rfl (lv_at hl 2 rfl) ?_
      have hPc := hP.sub (ws' := [(f, .inr (2, [.ref f_kinds, .ref f_signs, .ref f_sizes, .ref f_places, .ref f_limits, .ref f_starts, .ref f_sorts, .int f_count, .int f_sections, .int f_fifth])), (f_sorts, .inl (cI, 4, .inl f_sortsF))]) [0, 3] rfl
      refine va_calli (va_runV (As := [.int p1]) (rest := []) ⟨hx, hb, hml, hown, hts⟩ (c_X2_sort l D cI cD cJ H.size f f_kinds f_signs f_sizes f_places f_limits f_starts f_sorts f_count f_sections f_fifth f_sortsF p1 (by omega) (by omega)) (cwV 1 hts (goodIn_app (goodIn_r _ [5, 6, 7, 4] rfl (by decide +kernel)) (goodIn_sub i_X2_sort k_X2_sort)) rfl rfl rfl (by decide +kernel) ⟨Nat.le_of_ble_eq_true rfl, Nat.le_of_ble_eq_true rfl⟩) ⟨fun a U g mk q => by obtain ⟨q0, qP, qK⟩ := q; exact ⟨q0, qP, va_K.moved (u := U) (U := U.calling g mk a) (Vm.Alike.refl U.vm) qK⟩, va_recv hK hPc (ci := 2) (q0 := 0) rfl rfl, fun U hU hW => ⟨rfl, by rw [hU]; exact hPc, va_K.moved hW.alike hK⟩⟩ rfl rfl hl.1 rfl (lv_room (Nat.le_of_ble_eq_true rfl)) dX5_isIll_39 ⟨Nat.le_of_ble_eq_true rfl, Nat.le_of_ble_eq_true rfl⟩) hS (fun q _ h => h.elim) (fun q h => h.elim) (fun x_5 u t H1 locs ht hvm w_6 hB hz1 hk1 hS => ?_)
      have hP : va_P D vwCl [(f, .inr (2, [.ref f_kinds, .ref f_signs, .ref f_sizes, .ref f_places, .ref f_limits, .ref f_starts, .ref f_sorts, .int f_count, .int f_sections, .int f_fifth])), (f_kinds, .inl (cI, 255, .inl f_kindsF)), (f_starts, .inl (cI, 4, .inl f_startsF)), (f_sorts, .inl (cI, 4, .inl f_sortsF))] H1 := hP.kept (fun k9 q9 h9 => hk1 q9.1 (vx_lt hP h9) (fun h => h))
      generalize H1 = H at hP hS ⊢
      have b_x_5 := ti_b x_5
      rcases (show (x_5 : Int32).toInt < 1 ∨ 5 < (x_5 : Int32).toInt ∨ (x_5 : Int32).toInt = 1 ∨ (x_5 : Int32).toInt = 2 ∨ (x_5 : Int32).toInt = 3 ∨ (x_5 : Int32).toInt = 4 ∨ (x_5 : Int32).toInt = 5 by omega) with v_7 | v_7 | v_7 | v_7 | v_7 | v_7 | v_7
      · refine lv_tableOut (tgt := 95) hx hb dX5_isIll_42 (Or.inl v_7) (by decide) ?_
        refine lv_aload_n hx hb dX5_isIll_95 rfl (lv_at hl 1 rfl) ?_
        refine lv_iload_n hx hb dX5_isIll_96 rfl (lv_at hl 2 rfl) ?_
        refine lv_iload_n hx hb dX5_isIll_97 rfl (lv_at hl 3 rfl) ?_
        have hPc := hP.sub (ws' := [(f, .inr (2, [.ref f_kinds, .ref f_signs, .ref f_sizes, .ref f_places, .ref f_limits, .ref f_starts, .ref f_sorts, .int f_count, .int f_sections, .int f_fifth])), (f_kinds, .inl (cI, 255, .inl f_kindsF)), (f_starts, .inl (cI, 4, .inl f_startsF))]) [0, 1, 2] rfl
        refine va_calli (va_runS (As := [.ref f, .int p1, .int p2]) (rest := []) ⟨hx, hb, hml, hown, hts⟩ (c_X5_isIllInWords l D cI cD cJ H.size f f_kinds f_signs f_sizes f_places f_limits f_starts f_sorts f_count f_sections f_fifth f_kindsF f_startsF p1 p2 (by omega) (by omega) (by omega) (by assumption)) (va_cwS 3 hts (goodIn_app (goodIn_r _ [8, 9, 10] rfl (by decide +kernel)) (goodIn_sub i_X5_isIllInWords k_X5_isIllInWords)) rfl rfl rfl (by decide +kernel) ⟨Nat.le_of_ble_eq_true rfl, Nat.le_of_ble_eq_true rfl⟩) ⟨fun a U g mk q => by obtain ⟨q0, qP, qK⟩ := q; exact ⟨q0, qP, va_K.moved (u := U) (U := U.calling g mk a) (Vm.Alike.refl U.vm) qK⟩, fun U hU hW => ⟨rfl, by rw [hU]; exact hPc, va_K.moved hW.alike hK⟩⟩ rfl rfl hl.1 rfl (lv_room (Nat.le_of_ble_eq_true rfl)) dX5_isIll_98 ⟨Nat.le_of_ble_eq_true rfl, Nat.le_of_ble_eq_true rfl⟩) hS (fun q _ h => h.elim) (fun q h => h.elim) (fun x_8 u t H1 locs ht hvm w_9 hB hz1 hk1 hS => ?_)
        have hP : va_P D vwCl [(f, .inr (2, [.ref f_kinds, .ref f_signs, .ref f_sizes, .ref f_places, .ref f_limits, .ref f_starts, .ref f_sorts, .int f_count, .int f_sections, .int f_fifth])), (f_kinds, .inl (cI, 255, .inl f_kindsF)), (f_starts, .inl (cI, 4, .inl f_startsF)), (f_sorts, .inl (cI, 4, .inl f_sortsF))] H1 := hP.kept (fun k9 q9 h9 => hk1 q9.1 (vx_lt hP h9) (fun h => h))
        generalize H1 = H at hP hS ⊢
        try dsimp only at w_9
        have b_x_8 := ti_b x_8
        exact W.zret (v := x_8) hx hb hr (nz01 (by omega)) (fun t ht hW => ⟨⟨x_8, (), rfl, (by (try dsimp only); first | omega | assumption), trivial⟩, hS.F ht⟩) hS.2.2 dX5_isIll_101
      · refine lv_tableOut (tgt := 95) hx hb dX5_isIll_42 (Or.inr v_7) (by decide) ?_
        refine lv_aload_n hx hb dX5_isIll_95 rfl (lv_at hl 1 rfl) ?_
        refine lv_iload_n hx hb dX5_isIll_96 rfl (lv_at hl 2 rfl) ?_
        refine lv_iload_n hx hb dX5_isIll_97 rfl (lv_at hl 3 rfl) ?_
        have hPc := hP.sub (ws' := [(f, .inr (2, [.ref f_kinds, .ref f_signs, .ref f_sizes, .ref f_places, .ref f_limits, .ref f_starts, .ref f_sorts, .int f_count, .int f_sections, .int f_fifth])), (f_kinds, .inl (cI, 255, .inl f_kindsF)), (f_starts, .inl (cI, 4, .inl f_startsF))]) [0, 1, 2] rfl
        refine va_calli (va_runS (As := [.ref f, .int p1, .int p2]) (rest := []) ⟨hx, hb, hml, hown, hts⟩ (c_X5_isIllInWords l D cI cD cJ H.size f f_kinds f_signs f_sizes f_places f_limits f_starts f_sorts f_count f_sections f_fifth f_kindsF f_startsF p1 p2 (by omega) (by omega) (by omega) (by assumption)) (va_cwS 3 hts (goodIn_app (goodIn_r _ [8, 9, 10] rfl (by decide +kernel)) (goodIn_sub i_X5_isIllInWords k_X5_isIllInWords)) rfl rfl rfl (by decide +kernel) ⟨Nat.le_of_ble_eq_true rfl, Nat.le_of_ble_eq_true rfl⟩) ⟨fun a U g mk q => by obtain ⟨q0, qP, qK⟩ := q; exact ⟨q0, qP, va_K.moved (u := U) (U := U.calling g mk a) (Vm.Alike.refl U.vm) qK⟩, fun U hU hW => ⟨rfl, by rw [hU]; exact hPc, va_K.moved hW.alike hK⟩⟩ rfl rfl hl.1 rfl (lv_room (Nat.le_of_ble_eq_true rfl)) dX5_isIll_98 ⟨Nat.le_of_ble_eq_true rfl, Nat.le_of_ble_eq_true rfl⟩) hS (fun q _ h => h.elim) (fun q h => h.elim) (fun x_10 u t H1 locs ht hvm w_11 hB hz1 hk1 hS => ?_)
        have hP : va_P D vwCl [(f, .inr (2, [.ref f_kinds, .ref f_signs, .ref f_sizes, .ref f_places, .ref f_limits, .ref f_starts, .ref f_sorts, .int f_count, .int f_sections, .int f_fifth])), (f_kinds, .inl (cI, 255, .inl f_kindsF)), (f_starts, .inl (cI, 4, .inl f_startsF)), (f_sorts, .inl (cI, 4, .inl f_sortsF))] H1 := hP.kept (fun k9 q9 h9 => hk1 q9.1 (vx_lt hP h9) (fun h => h))
        generalize H1 = H at hP hS ⊢
        try dsimp only at w_11
        have b_x_10 := ti_b x_10
        exact W.zret (v := x_10) hx hb hr (nz01 (by omega)) (fun t ht hW => ⟨⟨x_10, (), rfl, (by (try dsimp only); first | omega | assumption), trivial⟩, hS.F ht⟩) hS.2.2 dX5_isIll_101
      · refine lv_tableIn (off := 34) (tgt := 76) hx hb dX5_isIll_42 (by omega) (by omega) (by rw [v_7]; rfl) (by decide) ?_
        refine lv_iload_n hx hb dX5_isIll_76 rfl (lv_at hl 0 rfl) ?_
        have hPc := hP.sub (ws' := []) [] rfl
        refine va_calli (va_runS (As := [.int x_1]) (rest := []) ⟨hx, hb, hml, hown, hts⟩ (c_X5_isIllInDate l D cI cD cJ H.size x_1) (va_cwS 1 hts (goodIn_app (goodIn_r _ [11, 12, 10] rfl (by decide +kernel)) (goodIn_sub i_X5_isIllInDate k_X5_isIllInDate)) rfl rfl rfl (by decide +kernel) ⟨Nat.le_of_ble_eq_true rfl, Nat.le_of_ble_eq_true rfl⟩) ⟨fun a U g mk q => by obtain ⟨q0, qP, qK⟩ := q; exact ⟨q0, qP, va_K.moved (u := U) (U := U.calling g mk a) (Vm.Alike.refl U.vm) qK⟩, fun U hU hW => ⟨rfl, by rw [hU]; exact hPc, va_K.moved hW.alike hK⟩⟩ rfl rfl hl.1 rfl (lv_room (Nat.le_of_ble_eq_true rfl)) dX5_isIll_77 ⟨Nat.le_of_ble_eq_true rfl, Nat.le_of_ble_eq_true rfl⟩) hS (fun q _ h => h.elim) (fun q h => h.elim) (fun x_12 u t H1 locs ht hvm w_13 hB hz1 hk1 hS => ?_)
        have hP : va_P D vwCl [(f, .inr (2, [.ref f_kinds, .ref f_signs, .ref f_sizes, .ref f_places, .ref f_limits, .ref f_starts, .ref f_sorts, .int f_count, .int f_sections, .int f_fifth])), (f_kinds, .inl (cI, 255, .inl f_kindsF)), (f_starts, .inl (cI, 4, .inl f_startsF)), (f_sorts, .inl (cI, 4, .inl f_sortsF))] H1 := hP.kept (fun k9 q9 h9 => hk1 q9.1 (vx_lt hP h9) (fun h => h))
        generalize H1 = H at hP hS ⊢
        try dsimp only at w_13
        have b_x_12 := ti_b x_12
        exact W.zret (v := x_12) hx hb hr (nz01 (by omega)) (fun t ht hW => ⟨⟨x_12, (), rfl, (by (try dsimp only); first | omega | assumption), trivial⟩, hS.F ht⟩) hS.2.2 dX5_isIll_80
      · refine lv_tableIn (off := 53) (tgt := 95) hx hb dX5_isIll_42 (by omega) (by omega) (by rw [v_7]; rfl) (by decide) ?_
        refine lv_aload_n hx hb dX5_isIll_95 rfl (lv_at hl 1 rfl) ?_
        refine lv_iload_n hx hb dX5_isIll_96 rfl (lv_at hl 2 rfl) ?_
        refine lv_iload_n hx hb dX5_isIll_97 rfl (lv_at hl 3 rfl) ?_
        have hPc := hP.sub (ws' := [(f, .inr (2, [.ref f_kinds, .ref f_signs, .ref f_sizes, .ref f_places, .ref f_limits, .ref f_starts, .ref f_sorts, .int f_count, .int f_sections, .int f_fifth])), (f_kinds, .inl (cI, 255, .inl f_kindsF)), (f_starts, .inl (cI, 4, .inl f_startsF))]) [0, 1, 2] rfl
        refine va_calli (va_runS (As := [.ref f, .int p1, .int p2]) (rest := []) ⟨hx, hb, hml, hown, hts⟩ (c_X5_isIllInWords l D cI cD cJ H.size f f_kinds f_signs f_sizes f_places f_limits f_starts f_sorts f_count f_sections f_fifth f_kindsF f_startsF p1 p2 (by omega) (by omega) (by omega) (by assumption)) (va_cwS 3 hts (goodIn_app (goodIn_r _ [8, 9, 10] rfl (by decide +kernel)) (goodIn_sub i_X5_isIllInWords k_X5_isIllInWords)) rfl rfl rfl (by decide +kernel) ⟨Nat.le_of_ble_eq_true rfl, Nat.le_of_ble_eq_true rfl⟩) ⟨fun a U g mk q => by obtain ⟨q0, qP, qK⟩ := q; exact ⟨q0, qP, va_K.moved (u := U) (U := U.calling g mk a) (Vm.Alike.refl U.vm) qK⟩, fun U hU hW => ⟨rfl, by rw [hU]; exact hPc, va_K.moved hW.alike hK⟩⟩ rfl rfl hl.1 rfl (lv_room (Nat.le_of_ble_eq_true rfl)) dX5_isIll_98 ⟨Nat.le_of_ble_eq_true rfl, Nat.le_of_ble_eq_true rfl⟩) hS (fun q _ h => h.elim) (fun q h => h.elim) (fun x_14 u t H1 locs ht hvm w_15 hB hz1 hk1 hS => ?_)
        have hP : va_P D vwCl [(f, .inr (2, [.ref f_kinds, .ref f_signs, .ref f_sizes, .ref f_places, .ref f_limits, .ref f_starts, .ref f_sorts, .int f_count, .int f_sections, .int f_fifth])), (f_kinds, .inl (cI, 255, .inl f_kindsF)), (f_starts, .inl (cI, 4, .inl f_startsF)), (f_sorts, .inl (cI, 4, .inl f_sortsF))] H1 := hP.kept (fun k9 q9 h9 => hk1 q9.1 (vx_lt hP h9) (fun h => h))
        generalize H1 = H at hP hS ⊢
        try dsimp only at w_15
        have b_x_14 := ti_b x_14
        exact W.zret (v := x_14) hx hb hr (nz01 (by omega)) (fun t ht hW => ⟨⟨x_14, (), rfl, (by (try dsimp only); first | omega | assumption), trivial⟩, hS.F ht⟩) hS.2.2 dX5_isIll_101
      · refine lv_tableIn (off := 53) (tgt := 95) hx hb dX5_isIll_42 (by omega) (by omega) (by rw [v_7]; rfl) (by decide) ?_
        refine lv_aload_n hx hb dX5_isIll_95 rfl (lv_at hl 1 rfl) ?_
        refine lv_iload_n hx hb dX5_isIll_96 rfl (lv_at hl 2 rfl) ?_
        refine lv_iload_n hx hb dX5_isIll_97 rfl (lv_at hl 3 rfl) ?_
        have hPc := hP.sub (ws' := [(f, .inr (2, [.ref f_kinds, .ref f_signs, .ref f_sizes, .ref f_places, .ref f_limits, .ref f_starts, .ref f_sorts, .int f_count, .int f_sections, .int f_fifth])), (f_kinds, .inl (cI, 255, .inl f_kindsF)), (f_starts, .inl (cI, 4, .inl f_startsF))]) [0, 1, 2] rfl
        refine va_calli (va_runS (As := [.ref f, .int p1, .int p2]) (rest := []) ⟨hx, hb, hml, hown, hts⟩ (c_X5_isIllInWords l D cI cD cJ H.size f f_kinds f_signs f_sizes f_places f_limits f_starts f_sorts f_count f_sections f_fifth f_kindsF f_startsF p1 p2 (by omega) (by omega) (by omega) (by assumption)) (va_cwS 3 hts (goodIn_app (goodIn_r _ [8, 9, 10] rfl (by decide +kernel)) (goodIn_sub i_X5_isIllInWords k_X5_isIllInWords)) rfl rfl rfl (by decide +kernel) ⟨Nat.le_of_ble_eq_true rfl, Nat.le_of_ble_eq_true rfl⟩) ⟨fun a U g mk q => by obtain ⟨q0, qP, qK⟩ := q; exact ⟨q0, qP, va_K.moved (u := U) (U := U.calling g mk a) (Vm.Alike.refl U.vm) qK⟩, fun U hU hW => ⟨rfl, by rw [hU]; exact hPc, va_K.moved hW.alike hK⟩⟩ rfl rfl hl.1 rfl (lv_room (Nat.le_of_ble_eq_true rfl)) dX5_isIll_98 ⟨Nat.le_of_ble_eq_true rfl, Nat.le_of_ble_eq_true rfl⟩) hS (fun q _ h => h.elim) (fun q h => h.elim) (fun x_16 u t H1 locs ht hvm w_17 hB hz1 hk1 hS => ?_)
        have hP : va_P D vwCl [(f, .inr (2, [.ref f_kinds, .ref f_signs, .ref f_sizes, .ref f_places, .ref f_limits, .ref f_starts, .ref f_sorts, .int f_count, .int f_sections, .int f_fifth])), (f_kinds, .inl (cI, 255, .inl f_kindsF)), (f_starts, .inl (cI, 4, .inl f_startsF)), (f_sorts, .inl (cI, 4, .inl f_sortsF))] H1 := hP.kept (fun k9 q9 h9 => hk1 q9.1 (vx_lt hP h9) (fun h => h))
        generalize H1 = H at hP hS ⊢
        try dsimp only at w_17
        have b_x_16 := ti_b x_16
        exact W.zret (v := x_16) hx hb hr (nz01 (by omega)) (fun t ht hW => ⟨⟨x_16, (), rfl, (by (try dsimp only); first | omega | assumption), trivial⟩, hS.F ht⟩) hS.2.2 dX5_isIll_101
      · refine lv_tableIn (off := 39) (tgt := 81) hx hb dX5_isIll_42 (by omega) (by omega) (by rw [v_7]; rfl) (by decide) ?_
        refine lv_aload_n hx hb dX5_isIll_81 rfl (lv_at hl 1 rfl) ?_
        refine lv_iload_n hx hb dX5_isIll_82 rfl (lv_at hl 2 rfl) ?_
        refine lv_iload_n hx hb dX5_isIll_83 rfl (lv_at hl 3 rfl) ?_
        have hPc := hP.sub (ws' := [(f, .inr (2, [.ref f_kinds, .ref f_signs, .ref f_sizes, .ref f_places, .ref f_limits, .ref f_starts, .ref f_sorts, .int f_count, .int f_sections, .int f_fifth])), (f_kinds, .inl (cI, 255, .inl f_kindsF)), (f_starts, .inl (cI, 4, .inl f_startsF))]) [0, 1, 2] rfl
        refine va_calli (va_runS (As := [.ref f, .int p1, .int p2]) (rest := []) ⟨hx, hb, hml, hown, hts⟩ (c_X5_isIllInNumber l D cI cD cJ H.size f f_kinds f_signs f_sizes f_places f_limits f_starts f_sorts f_count f_sections f_fifth f_kindsF f_startsF p1 p2 (by omega) (by omega) (by omega) (by assumption)) (va_cwS 3 hts (goodIn_app (goodIn_r _ [13, 14, 10] rfl (by decide +kernel)) (goodIn_sub i_X5_isIllInNumber k_X5_isIllInNumber)) rfl rfl rfl (by decide +kernel) ⟨Nat.le_of_ble_eq_true rfl, Nat.le_of_ble_eq_true rfl⟩) ⟨fun a U g mk q => by obtain ⟨q0, qP, qK⟩ := q; exact ⟨q0, qP, va_K.moved (u := U) (U := U.calling g mk a) (Vm.Alike.refl U.vm) qK⟩, fun U hU hW => ⟨rfl, by rw [hU]; exact hPc, va_K.moved hW.alike hK⟩⟩ rfl rfl hl.1 rfl (lv_room (Nat.le_of_ble_eq_true rfl)) dX5_isIll_84 ⟨Nat.le_of_ble_eq_true rfl, Nat.le_of_ble_eq_true rfl⟩) hS (fun q _ h => h.elim) (fun q h => h.elim) (fun x_18 u t H1 locs ht hvm w_19 hB hz1 hk1 hS => ?_)
        have hP : va_P D vwCl [(f, .inr (2, [.ref f_kinds, .ref f_signs, .ref f_sizes, .ref f_places, .ref f_limits, .ref f_starts, .ref f_sorts, .int f_count, .int f_sections, .int f_fifth])), (f_kinds, .inl (cI, 255, .inl f_kindsF)), (f_starts, .inl (cI, 4, .inl f_startsF)), (f_sorts, .inl (cI, 4, .inl f_sortsF))] H1 := hP.kept (fun k9 q9 h9 => hk1 q9.1 (vx_lt hP h9) (fun h => h))
        generalize H1 = H at hP hS ⊢
        try dsimp only at w_19
        have b_x_18 := ti_b x_18
        exact W.zret (v := x_18) hx hb hr (nz01 (by omega)) (fun t ht hW => ⟨⟨x_18, (), rfl, (by (try dsimp only); first | omega | assumption), trivial⟩, hS.F ht⟩) hS.2.2 dX5_isIll_87
      · refine lv_tableIn (off := 46) (tgt := 88) hx hb dX5_isIll_42 (by omega) (by omega) (by rw [v_7]; rfl) (by decide) ?_
        refine lv_aload_n hx hb dX5_isIll_88 rfl (lv_at hl 1 rfl) ?_
        refine lv_iload_n hx hb dX5_isIll_89 rfl (lv_at hl 2 rfl) ?_
        refine lv_iload_n hx hb dX5_isIll_90 rfl (lv_at hl 3 rfl) ?_
        have hPc := hP.sub (ws' := [(f, .inr (2, [.ref f_kinds, .ref f_signs, .ref f_sizes, .ref f_places, .ref f_limits, .ref f_starts, .ref f_sorts, .int f_count, .int f_sections, .int f_fifth])), (f_kinds, .inl (cI, 255, .inl f_kindsF)), (f_starts, .inl (cI, 4, .inl f_startsF))]) [0, 1, 2] rfl
        refine va_calli (va_runS (As := [.ref f, .int p1, .int p2]) (rest := []) ⟨hx, hb, hml, hown, hts⟩ (c_X5_isIllInFraction l D cI cD cJ H.size f f_kinds f_signs f_sizes f_places f_limits f_starts f_sorts f_count f_sections f_fifth f_kindsF f_startsF p1 p2 (by omega) (by omega) (by omega) (by assumption)) (va_cwS 3 hts (goodIn_app (goodIn_r _ [15, 16, 10] rfl (by decide +kernel)) (goodIn_sub i_X5_isIllInFraction k_X5_isIllInFraction)) rfl rfl rfl (by decide +kernel) ⟨Nat.le_of_ble_eq_true rfl, Nat.le_of_ble_eq_true rfl⟩) ⟨fun a U g mk q => by obtain ⟨q0, qP, qK⟩ := q; exact ⟨q0, qP, va_K.moved (u := U) (U := U.calling g mk a) (Vm.Alike.refl U.vm) qK⟩, fun U hU hW => ⟨rfl, by rw [hU]; exact hPc, va_K.moved hW.alike hK⟩⟩ rfl rfl hl.1 rfl (lv_room (Nat.le_of_ble_eq_true rfl)) dX5_isIll_91 ⟨Nat.le_of_ble_eq_true rfl, Nat.le_of_ble_eq_true rfl⟩) hS (fun q _ h => h.elim) (fun q h => h.elim) (fun x_20 u t H1 locs ht hvm w_21 hB hz1 hk1 hS => ?_)
        have hP : va_P D vwCl [(f, .inr (2, [.ref f_kinds, .ref f_signs, .ref f_sizes, .ref f_places, .ref f_limits, .ref f_starts, .ref f_sorts, .int f_count, .int f_sections, .int f_fifth])), (f_kinds, .inl (cI, 255, .inl f_kindsF)), (f_starts, .inl (cI, 4, .inl f_startsF)), (f_sorts, .inl (cI, 4, .inl f_sortsF))] H1 := hP.kept (fun k9 q9 h9 => hk1 q9.1 (vx_lt hP h9) (fun h => h))
        generalize H1 = H at hP hS ⊢
        try dsimp only at w_21
        have b_x_20 := ti_b x_20
        exact W.zret (v := x_20) hx hb hr (nz01 (by omega)) (fun t ht hW => ⟨⟨x_20, (), rfl, (by (try dsimp only); first | omega | assumption), trivial⟩, hS.F ht⟩) hS.2.2 dX5_isIll_94
    · have ic_4 : (x_1 : Int32).toInt = (2 : Int32).toInt := (fa_eq x_1 2).mp c_4
      refine lv_iload_n hx hb dX5_isIll_17 rfl (lv_at hl 2 rfl) ?_
      refine lv_iconst (v := 1) hx hb dX5_isIll_18 (by decide) ?_
      have K_31 : ∀ (H : Heap) (locs : List Loc) (ls : Array Slot), va_P D vwCl [(f, .inr (2, [.ref f_kinds, .ref f_signs, .ref f_sizes, .ref f_places, .ref f_limits, .ref f_starts, .ref f_sorts, .int f_count, .int f_sections, .int f_fifth])), (f_kinds, .inl (cI, 255, .inl f_kindsF)), (f_starts, .inl (cI, 4, .inl f_startsF)), (f_sorts, .inl (cI, 4, .inl f_sortsF))] H → va_S (fun _ => False) s.heap H locs → lv_has ls 4 [] → Z 0 0 H locs (F0 m 31 ls []) := by
        intro  H locs ls  hP hS hl
        refine hZ2 ?_
        refine lv_iconst (v := 1) hx hb dX5_isIll_31 (by decide) ?_
        refine lv_goto (tgt := 36) hx hb dX5_isIll_32 (by decide) ?_
        exact W.zret (v := 1) hx hb hr rfl (fun t ht hW => ⟨⟨1, (), rfl, (by (try dsimp only); first | omega | assumption), trivial⟩, hS.F ht⟩) hS.2.2 dX5_isIll_36
      refine lv_icmp_gt (tgt := 31) hx hb dX5_isIll_19 (by decide) (fun c_22 => ?_) (fun c_22 => ?_)
      · have ic_22 : (1 : Int32).toInt < (p1 : Int32).toInt := (fa_lt 1 p1).mp c_22
        exact hZ1 (K_31  _ _ _ hP hS (lv_sub hl [] rfl))
      · have ic_22 : ¬ ((1 : Int32).toInt < (p1 : Int32).toInt) := fun h9 => c_22 ((fa_lt 1 p1).mpr h9)
        refine lv_iload_n hx hb dX5_isIll_22 rfl (lv_at hl 3 rfl) ?_
        refine lv_aload_n hx hb dX5_isIll_23 rfl (lv_at hl 1 rfl) ?_
        refine lv_iload_n hx hb dX5_isIll_24 rfl (lv_at hl 2 rfl) ?_
        have hPc := hP.sub (ws' := [(f, .inr (2, [.ref f_kinds, .ref f_signs, .ref f_sizes, .ref f_places, .ref f_limits, .ref f_starts, .ref f_sorts, .int f_count, .int f_sections, .int f_fifth])), (f_starts, .inl (cI, 4, .inl f_startsF))]) [0, 2] rfl
        refine va_calli (va_runV (As := [.int p1]) (rest := [.int p2]) ⟨hx, hb, hml, hown, hts⟩ (c_X2_from l D cI cD cJ H.size f f_kinds f_signs f_sizes f_places f_limits f_starts f_sorts f_count f_sections f_fifth f_startsF p1 (by omega) (by omega) (by assumption)) (cwV 1 hts (goodIn_app (goodIn_r _ [17, 18, 19, 4] rfl (by decide +kernel)) (goodIn_sub i_X2_from k_X2_from)) rfl rfl rfl (by decide +kernel) ⟨Nat.le_of_ble_eq_true rfl, Nat.le_of_ble_eq_true rfl⟩) ⟨fun a U g mk q => by obtain ⟨q0, qP, qK⟩ := q; exact ⟨q0, qP, va_K.moved (u := U) (U := U.calling g mk a) (Vm.Alike.refl U.vm) qK⟩, va_recv hK hPc (ci := 2) (q0 := 0) rfl rfl, fun U hU hW => ⟨rfl, by rw [hU]; exact hPc, va_K.moved hW.alike hK⟩⟩ rfl rfl hl.1 rfl (lv_room (Nat.le_of_ble_eq_true rfl)) dX5_isIll_25 ⟨Nat.le_of_ble_eq_true rfl, Nat.le_of_ble_eq_true rfl⟩) hS (fun q _ h => h.elim) (fun q h => h.elim) (fun x_23 u t H1 locs ht hvm w_24 hB hz1 hk1 hS => ?_)
        have hP : va_P D vwCl [(f, .inr (2, [.ref f_kinds, .ref f_signs, .ref f_sizes, .ref f_places, .ref f_limits, .ref f_starts, .ref f_sorts, .int f_count, .int f_sections, .int f_fifth])), (f_kinds, .inl (cI, 255, .inl f_kindsF)), (f_starts, .inl (cI, 4, .inl f_startsF)), (f_sorts, .inl (cI, 4, .inl f_sortsF))] H1 := hP.kept (fun k9 q9 h9 => hk1 q9.1 (vx_lt hP h9) (fun h => h))
        generalize H1 = H at hP hS ⊢
        try dsimp only at w_24
        refine lv_icmp_eq (tgt := 35) hx hb dX5_isIll_28 (by decide) (fun c_25 => ?_) (fun c_25 => ?_)
        · have ic_25 : (p2 : Int32).toInt = (x_23 : Int32).toInt := (fa_eq p2 x_23).mp c_25
          refine lv_iconst (v := 0) hx hb dX5_isIll_35 (by decide) ?_
          exact W.zret (v := 0) hx hb hr rfl (fun t ht hW => ⟨⟨0, (), rfl, (by (try dsimp only); first | omega | assumption), trivial⟩, hS.F ht⟩) hS.2.2 dX5_isIll_36
        · have ic_25 : ¬ ((p2 : Int32).toInt = (x_23 : Int32).toInt) := fun h9 => c_25 ((fa_eq p2 x_23).mpr h9)
          exact hZ1 (K_31  _ _ _ hP hS (lv_sub hl [] rfl))
  · have ic_3 : (x_1 : Int32).toInt = (0 : Int32).toInt := (fa_eq x_1 0).mp c_3
    refine lv_iconst (v := 1) hx hb dX5_isIll_10 (by decide) ?_
    exact W.zret (v := 1) hx hb hr rfl (fun t ht hW => ⟨⟨1, (), rfl, (by (try dsimp only); first | omega | assumption), trivial⟩, hS.F ht⟩) hS.2.2 dX5_isIll_11

def ow_X5_firstIllIn : List Cond := [Cond.methodLink RX5 25 yX2_sort, Cond.instanceMethod yX2_sort, Cond.selects RX2 yX2_sort yX2_sort, Cond.initialized RX2, Cond.methodLink RX5 56 yX2_from, Cond.instanceMethod yX2_from, Cond.selects RX2 yX2_from yX2_from, Cond.methodLink RX5 59 yX2_to, Cond.instanceMethod yX2_to, Cond.selects RX2 yX2_to yX2_to, Cond.methodLink RX5 78 yX5_isIll, Cond.static yX5_isIll, Cond.initialized RX5]
def pw_X5_firstIllIn : List Cond := Cond.code yX5_firstIllIn cX5_firstIllIn 4 (some .int) :: (ow_X5_firstIllIn ++ (pw_X2_sort ++ (pw_X2_from ++ (pw_X2_to ++ (pw_X5_isIll)))))
set_option maxRecDepth 20000 in
theorem mo_X5_firstIllIn : ∀ w ∈ ow_X5_firstIllIn, w ∈ lw_tbl := by decide +kernel
set_option maxRecDepth 20000 in
theorem mc_X5_firstIllIn : Cond.code yX5_firstIllIn cX5_firstIllIn 4 (some .int) ∈ lw_tbl := by decide +kernel
theorem m_X5_firstIllIn : ∀ w ∈ pw_X5_firstIllIn, w ∈ lw_tbl := List.forall_mem_cons.mpr ⟨mc_X5_firstIllIn, (List.forall_mem_append.mpr ⟨mo_X5_firstIllIn, (List.forall_mem_append.mpr ⟨m_X2_sort, (List.forall_mem_append.mpr ⟨m_X2_from, (List.forall_mem_append.mpr ⟨m_X2_to, m_X5_isIll⟩)⟩)⟩)⟩)⟩
theorem ko_X5_firstIllIn : ∀ w ∈ ow_X5_firstIllIn, goodWord w = true := by decide +kernel
theorem k_X5_firstIllIn : pw_X5_firstIllIn.all goodWord = true := List.all_eq_true.mpr (List.forall_mem_cons.mpr ⟨by decide +kernel, (List.forall_mem_append.mpr ⟨ko_X5_firstIllIn, (List.forall_mem_append.mpr ⟨(List.all_eq_true.mp k_X2_sort), (List.forall_mem_append.mpr ⟨(List.all_eq_true.mp k_X2_from), (List.forall_mem_append.mpr ⟨(List.all_eq_true.mp k_X2_to), (List.all_eq_true.mp k_X5_isIll)⟩)⟩)⟩)⟩)⟩)
set_option maxHeartbeats 400000 in
set_option maxRecDepth 100000 in
theorem c_X5_firstIllIn (l : Launch) (D : va_G) (cI cD cJ : ClassId) (sz : Nat) (f : Nat) (f_kinds : Nat) (f_signs : Nat) (f_sizes : Nat) (f_places : Nat) (f_limits : Nat) (f_starts : Nat) (f_sorts : Nat) (f_count : Int32) (f_sections : Int32) (f_fifth : Int32) (f_kindsF : Nat → Int32) (f_startsF : Nat → Int32) (f_sortsF : Nat → Int32) (p1 : Int32) (hs9 : p1.toInt ≤ 4) (iv_f_count : 0 ≤ (f_count : Int32).toInt ∧ (f_count : Int32).toInt ≤ 255) (iv_f_sections : 0 ≤ (f_sections : Int32).toInt ∧ (f_sections : Int32).toInt ≤ 4) (iv_f_startsF : ∀ k9 : Nat, k9 < 4 → 0 ≤ (f_startsF k9).toInt ∧ (f_startsF k9).toInt ≤ 255) : Met l yX5_firstIllIn pw_X5_firstIllIn ({ frames := 5, cells := 0, slots := 0, locals := 114 }) (va_Pc [.ref f, .int p1] (fun U => va_P D vwCl [(f, .inr (2, [.ref f_kinds, .ref f_signs, .ref f_sizes, .ref f_places, .ref f_limits, .ref f_starts, .ref f_sorts, .int f_count, .int f_sections, .int f_fifth])), (f_kinds, .inl (cI, 255, .inl f_kindsF)), (f_starts, .inl (cI, 4, .inl f_startsF)), (f_sorts, .inl (cI, 4, .inl f_sortsF))] U.heap ∧ va_K D vwCl (ty3 cI cD cJ) U)) (va_Qi (fun (r : Int32) (u : Unit) => True) (fun _ _ => True) (fun _ => False)) 0 0 (fun _ => False) := by
  refine Met.ofW (cc := cX5_firstIllIn) (maxL := 4) (ret := (some .int)) (by decide +kernel) rfl ?_
  intro p e s m args below meth c s₁ B hml hv
  obtain ⟨rfl, hP, hK⟩ := hv
  have hx := B.exec
  have hb := B.bytes
  have hr := B.returns
  have hts := atoms_spec (ws := pw_X5_firstIllIn) B.pre
  have hown : s.vm.findClass RX5 = some m.cls := findClass_of_methodNamed B.named
  have hlocks := B.notSynchronized
  have hS : va_S (fun _ => False) s.heap s.heap [] := va_S.rf
  have hw : ∀ (k : Nat) (w : Cond), ow_X5_firstIllIn[k]? = some w → w.before _ s = true := fun k w h => hts w (List.mem_cons_of_mem _ (have h9 := List.mem_of_getElem? h; List.mem_append_left _ h9))
  have i_X2_sort : ∀ w ∈ pw_X2_sort, w ∈ pw_X5_firstIllIn := fun w h9 => List.mem_cons_of_mem _ (List.mem_append_right _ (List.mem_append_left _ h9))
  have i_X2_from : ∀ w ∈ pw_X2_from, w ∈ pw_X5_firstIllIn := fun w h9 => List.mem_cons_of_mem _ (List.mem_append_right _ (List.mem_append_right _ (List.mem_append_left _ h9)))
  have i_X2_to : ∀ w ∈ pw_X2_to, w ∈ pw_X5_firstIllIn := fun w h9 => List.mem_cons_of_mem _ (List.mem_append_right _ (List.mem_append_right _ (List.mem_append_right _ (List.mem_append_left _ h9))))
  have i_X5_isIll : ∀ w ∈ pw_X5_isIll, w ∈ pw_X5_firstIllIn := fun w h9 => List.mem_cons_of_mem _ (List.mem_append_right _ (List.mem_append_right _ (List.mem_append_right _ (List.mem_append_right _ (h9)))))
  have n_m1 : (((-1) : Int32)).toInt = (-1) := by decide
  have n_0 : ((0 : Int32)).toInt = 0 := by decide
  have n_1 : ((1 : Int32)).toInt = 1 := by decide
  have n_2 : ((2 : Int32)).toInt = 2 := by decide
  have n_3 : ((3 : Int32)).toInt = 3 := by decide
  have hl := lv_entry ([.ref f, .int p1]) (n := 4) (Nat.le_of_ble_eq_true rfl)
  rw [lg_entry_eq]
  generalize (lg_sl ([.ref f, .int p1]) ++ List.replicate (4 - (lg_sl ([.ref f, .int p1])).length) Slot.unset).toArray = ls at hl ⊢
  have hl : lv_has ls 4 [(0, .ref f), (1, .int p1)] := hl
  have b_p1 := ti_b p1
  refine zz_cap (fun Z hZ1 hZ2 => ?_)
  refine lv_aload_n hx hb dX5_firstIllIn_0 rfl (lv_at hl 0 rfl) ?_
  refine lv_iload_n hx hb dX5_firstIllIn_1 rfl (lv_at hl 1 rfl) ?_
  have hPc := hP.sub (ws' := [(f, .inr (2, [.ref f_kinds, .ref f_signs, .ref f_sizes, .ref f_places, .ref f_limits, .ref f_starts, .ref f_sorts, .int f_count, .int f_sections, .int f_fifth])), (f_sorts, .inl (cI, 4, .inl f_sortsF))]) [0, 3] rfl
  refine va_calli (va_runV (As := [.int p1]) (rest := []) ⟨hx, hb, hml, hown, hts⟩ (c_X2_sort l D cI cD cJ s.heap.size f f_kinds f_signs f_sizes f_places f_limits f_starts f_sorts f_count f_sections f_fifth f_sortsF p1 (by omega) (by omega)) (cwV 1 hts (goodIn_app (goodIn_r _ [1, 2, 3, 4] rfl (by decide +kernel)) (goodIn_sub i_X2_sort k_X2_sort)) rfl rfl rfl (by decide +kernel) ⟨Nat.le_of_ble_eq_true rfl, Nat.le_of_ble_eq_true rfl⟩) ⟨fun a U g mk q => by obtain ⟨q0, qP, qK⟩ := q; exact ⟨q0, qP, va_K.moved (u := U) (U := U.calling g mk a) (Vm.Alike.refl U.vm) qK⟩, va_recv hK hPc (ci := 2) (q0 := 0) rfl rfl, fun U hU hW => ⟨rfl, by rw [hU]; exact hPc, va_K.moved hW.alike hK⟩⟩ rfl rfl hl.1 rfl (lv_room (Nat.le_of_ble_eq_true rfl)) dX5_firstIllIn_2 ⟨Nat.le_of_ble_eq_true rfl, Nat.le_of_ble_eq_true rfl⟩) hS (fun q _ h => h.elim) (fun q h => h.elim) (fun x_1 u t H1 locs ht hvm w_2 hB hz1 hk1 hS => ?_)
  have hP : va_P D vwCl [(f, .inr (2, [.ref f_kinds, .ref f_signs, .ref f_sizes, .ref f_places, .ref f_limits, .ref f_starts, .ref f_sorts, .int f_count, .int f_sections, .int f_fifth])), (f_kinds, .inl (cI, 255, .inl f_kindsF)), (f_starts, .inl (cI, 4, .inl f_startsF)), (f_sorts, .inl (cI, 4, .inl f_sortsF))] H1 := hP.kept (fun k9 q9 h9 => hk1 q9.1 (vx_lt hP h9) (fun h => h))
  generalize H1 = H at hP hS ⊢
  have b_x_1 := ti_b x_1
  refine lv_istore_n (lv' := [(2, .int x_1), (0, .ref f), (1, .int p1)]) hx hb dX5_firstIllIn_5 rfl hl (by decide) rfl (fun ls hl => ?_)
  refine lv_iload_n hx hb dX5_firstIllIn_6 rfl (lv_at hl 2 rfl) ?_
  refine lv_iconst (v := 3) hx hb dX5_firstIllIn_7 (by decide) ?_
  have K_26 : ∀ (H : Heap) (locs : List Loc) (ls : Array Slot), va_P D vwCl [(f, .inr (2, [.ref f_kinds, .ref f_signs, .ref f_sizes, .ref f_places, .ref f_limits, .ref f_starts, .ref f_sorts, .int f_count, .int f_sections, .int f_fifth])), (f_kinds, .inl (cI, 255, .inl f_kindsF)), (f_starts, .inl (cI, 4, .inl f_startsF)), (f_sorts, .inl (cI, 4, .inl f_sortsF))] H → va_S (fun _ => False) s.heap H locs → lv_has ls 4 [(0, .ref f), (1, .int p1)] → Z 0 0 H locs (F0 m 26 ls []) := by
    intro  H locs ls  hP hS hl
    refine hZ2 ?_
    refine lv_aload_n hx hb dX5_firstIllIn_26 rfl (lv_at hl 0 rfl) ?_
    refine lv_iload_n hx hb dX5_firstIllIn_27 rfl (lv_at hl 1 rfl) ?_
    have hPc := hP.sub (ws' := [(f, .inr (2, [.ref f_kinds, .ref f_signs, .ref f_sizes, .ref f_places, .ref f_limits, .ref f_starts, .ref f_sorts, .int f_count, .int f_sections, .int f_fifth])), (f_starts, .inl (cI, 4, .inl f_startsF))]) [0, 2] rfl
    refine va_calli (va_runV (As := [.int p1]) (rest := []) ⟨hx, hb, hml, hown, hts⟩ (c_X2_from l D cI cD cJ H.size f f_kinds f_signs f_sizes f_places f_limits f_starts f_sorts f_count f_sections f_fifth f_startsF p1 (by omega) (by omega) (by assumption)) (cwV 1 hts (goodIn_app (goodIn_r _ [5, 6, 7, 4] rfl (by decide +kernel)) (goodIn_sub i_X2_from k_X2_from)) rfl rfl rfl (by decide +kernel) ⟨Nat.le_of_ble_eq_true rfl, Nat.le_of_ble_eq_true rfl⟩) ⟨fun a U g mk q => by obtain ⟨q0, qP, qK⟩ := q; exact ⟨q0, qP, va_K.moved (u := U) (U := U.calling g mk a) (Vm.Alike.refl U.vm) qK⟩, va_recv hK hPc (ci := 2) (q0 := 0) rfl rfl, fun U hU hW => ⟨rfl, by rw [hU]; exact hPc, va_K.moved hW.alike hK⟩⟩ rfl rfl hl.1 rfl (lv_room (Nat.le_of_ble_eq_true rfl)) dX5_firstIllIn_28 ⟨Nat.le_of_ble_eq_true rfl, Nat.le_of_ble_eq_true rfl⟩) hS (fun q _ h => h.elim) (fun q h => h.elim) (fun x_3 u t H1 locs ht hvm w_4 hB hz1 hk1 hS => ?_)
    have hP : va_P D vwCl [(f, .inr (2, [.ref f_kinds, .ref f_signs, .ref f_sizes, .ref f_places, .ref f_limits, .ref f_starts, .ref f_sorts, .int f_count, .int f_sections, .int f_fifth])), (f_kinds, .inl (cI, 255, .inl f_kindsF)), (f_starts, .inl (cI, 4, .inl f_startsF)), (f_sorts, .inl (cI, 4, .inl f_sortsF))] H1 := hP.kept (fun k9 q9 h9 => hk1 q9.1 (vx_lt hP h9) (fun h => h))
    generalize H1 = H at hP hS ⊢
    try dsimp only at w_4
    refine lv_istore_n (lv' := [(3, .int x_3), (0, .ref f), (1, .int p1)]) hx hb dX5_firstIllIn_31 rfl hl (by decide) rfl (fun ls hl => ?_)
    have L_32 : ∀ (N : Nat) (x_5 : Int32) (H : Heap) (locs : List Loc) (ls : Array Slot), ((2147483647 - (x_5 : Int32).toInt).toNat < N) → va_P D vwCl [(f, .inr (2, [.ref f_kinds, .ref f_signs, .ref f_sizes, .ref f_places, .ref f_limits, .ref f_starts, .ref f_sorts, .int f_count, .int f_sections, .int f_fifth])), (f_kinds, .inl (cI, 255, .inl f_kindsF)), (f_starts, .inl (cI, 4, .inl f_startsF)), (f_sorts, .inl (cI, 4, .inl f_sortsF))] H → va_S (fun _ => False) s.heap H locs → lv_has ls 4 [(3, .int x_5), (0, .ref f), (1, .int p1)] → Z 0 0 H locs (F0 m 32 ls []) := by
      intro N
      induction N with
      | zero => intro _ _ _ _ hmu; exact absurd hmu (Nat.not_lt_zero _)
      | succ N ih_32 =>
        intro x_5 H locs ls  hmu hP hS hl
        refine hZ2 ?_
        refine lv_iload_n hx hb dX5_firstIllIn_32 rfl (lv_at hl 0 rfl) ?_
        refine lv_aload_n hx hb dX5_firstIllIn_33 rfl (lv_at hl 1 rfl) ?_
        refine lv_iload_n hx hb dX5_firstIllIn_34 rfl (lv_at hl 2 rfl) ?_
        have hPc := hP.sub (ws' := [(f, .inr (2, [.ref f_kinds, .ref f_signs, .ref f_sizes, .ref f_places, .ref f_limits, .ref f_starts, .ref f_sorts, .int f_count, .int f_sections, .int f_fifth])), (f_starts, .inl (cI, 4, .inl f_startsF))]) [0, 2] rfl
        refine va_calli (va_runV (As := [.int p1]) (rest := [.int x_5]) ⟨hx, hb, hml, hown, hts⟩ (c_X2_to l D cI cD cJ H.size f f_kinds f_signs f_sizes f_places f_limits f_starts f_sorts f_count f_sections f_fifth f_startsF p1 (by omega) (by omega) (by omega) (by assumption)) (cwV 1 hts (goodIn_app (goodIn_r _ [8, 9, 10, 4] rfl (by decide +kernel)) (goodIn_sub i_X2_to k_X2_to)) rfl rfl rfl (by decide +kernel) ⟨Nat.le_of_ble_eq_true rfl, Nat.le_of_ble_eq_true rfl⟩) ⟨fun a U g mk q => by obtain ⟨q0, qP, qK⟩ := q; exact ⟨q0, qP, va_K.moved (u := U) (U := U.calling g mk a) (Vm.Alike.refl U.vm) qK⟩, va_recv hK hPc (ci := 2) (q0 := 0) rfl rfl, fun U hU hW => ⟨rfl, by rw [hU]; exact hPc, va_K.moved hW.alike hK⟩⟩ rfl rfl hl.1 rfl (lv_room (Nat.le_of_ble_eq_true rfl)) dX5_firstIllIn_35 ⟨Nat.le_of_ble_eq_true rfl, Nat.le_of_ble_eq_true rfl⟩) hS (fun q _ h => h.elim) (fun q h => h.elim) (fun x_6 u t H1 locs ht hvm w_7 hB hz1 hk1 hS => ?_)
        have hP : va_P D vwCl [(f, .inr (2, [.ref f_kinds, .ref f_signs, .ref f_sizes, .ref f_places, .ref f_limits, .ref f_starts, .ref f_sorts, .int f_count, .int f_sections, .int f_fifth])), (f_kinds, .inl (cI, 255, .inl f_kindsF)), (f_starts, .inl (cI, 4, .inl f_startsF)), (f_sorts, .inl (cI, 4, .inl f_sortsF))] H1 := hP.kept (fun k9 q9 h9 => hk1 q9.1 (vx_lt hP h9) (fun h => h))
        generalize H1 = H at hP hS ⊢
        try dsimp only at w_7
        refine lv_icmp_ge (tgt := 58) hx hb dX5_firstIllIn_38 (by decide) (fun c_8 => ?_) (fun c_8 => ?_)
        · have ic_8 : (x_6 : Int32).toInt ≤ (x_5 : Int32).toInt := (fa_le x_6 x_5).mp c_8
          refine lv_iconst (v := (-1)) hx hb dX5_firstIllIn_58 (by decide) ?_
          exact W.iret (v := (-1)) hx hb hr (fun t ht hW => ⟨⟨(-1), (), rfl, trivial, trivial⟩, hS.F ht⟩) hS.2.2 dX5_firstIllIn_59
        · have ic_8 : ¬ ((x_6 : Int32).toInt ≤ (x_5 : Int32).toInt) := fun h9 => c_8 ((fa_le x_6 x_5).mpr h9)
          refine lv_aload_n hx hb dX5_firstIllIn_41 rfl (lv_at hl 1 rfl) ?_
          refine lv_iload_n hx hb dX5_firstIllIn_42 rfl (lv_at hl 2 rfl) ?_
          refine lv_iload_n hx hb dX5_firstIllIn_43 rfl (lv_at hl 0 rfl) ?_
          have hPc := hP.sub (ws' := [(f, .inr (2, [.ref f_kinds, .ref f_signs, .ref f_sizes, .ref f_places, .ref f_limits, .ref f_starts, .ref f_sorts, .int f_count, .int f_sections, .int f_fifth])), (f_kinds, .inl (cI, 255, .inl f_kindsF)), (f_starts, .inl (cI, 4, .inl f_startsF)), (f_sorts, .inl (cI, 4, .inl f_sortsF))]) [0, 1, 2, 3] rfl
          refine va_calli (va_runS (As := [.ref f, .int p1, .int x_5]) (rest := []) ⟨hx, hb, hml, hown, hts⟩ (c_X5_isIll l D cI cD cJ H.size f f_kinds f_signs f_sizes f_places f_limits f_starts f_sorts f_count f_sections f_fifth f_kindsF f_startsF f_sortsF p1 x_5 (by omega) (by omega) (by omega) (by assumption)) (va_cwS 3 hts (goodIn_app (goodIn_r _ [11, 12, 13] rfl (by decide +kernel)) (goodIn_sub i_X5_isIll k_X5_isIll)) rfl rfl rfl (by decide +kernel) ⟨Nat.le_of_ble_eq_true rfl, Nat.le_of_ble_eq_true rfl⟩) ⟨fun a U g mk q => by obtain ⟨q0, qP, qK⟩ := q; exact ⟨q0, qP, va_K.moved (u := U) (U := U.calling g mk a) (Vm.Alike.refl U.vm) qK⟩, fun U hU hW => ⟨rfl, by rw [hU]; exact hPc, va_K.moved hW.alike hK⟩⟩ rfl rfl hl.1 rfl (lv_room (Nat.le_of_ble_eq_true rfl)) dX5_firstIllIn_44 ⟨Nat.le_of_ble_eq_true rfl, Nat.le_of_ble_eq_true rfl⟩) hS (fun q _ h => h.elim) (fun q h => h.elim) (fun x_9 u t H1 locs ht hvm w_10 hB hz1 hk1 hS => ?_)
          have hP : va_P D vwCl [(f, .inr (2, [.ref f_kinds, .ref f_signs, .ref f_sizes, .ref f_places, .ref f_limits, .ref f_starts, .ref f_sorts, .int f_count, .int f_sections, .int f_fifth])), (f_kinds, .inl (cI, 255, .inl f_kindsF)), (f_starts, .inl (cI, 4, .inl f_startsF)), (f_sorts, .inl (cI, 4, .inl f_sortsF))] H1 := hP.kept (fun k9 q9 h9 => hk1 q9.1 (vx_lt hP h9) (fun h => h))
          generalize H1 = H at hP hS ⊢
          try dsimp only at w_10
          have b_x_9 := ti_b x_9
          refine lv_if_eq (tgt := 52) hx hb dX5_firstIllIn_47 (by decide) (fun c_11 => ?_) (fun c_11 => ?_)
          · have ic_11 : (x_9 : Int32).toInt = (0 : Int32).toInt := (fa_eq x_9 0).mp c_11
            obtain ⟨x_12, ex_12⟩ : ∃ y : Int32, y = x_5 + 1 := ⟨_, rfl⟩
            have b_x_5 := ti_b x_5
            have tx_12 := ti_add ex_12
            refine lv_iinc (v := x_12) (lv' := [(3, .int x_12), (0, .ref f), (1, .int p1)]) hx hb dX5_firstIllIn_52 hl (k := 0) rfl (by rw [ex_12]; rfl) (by decide) rfl (fun ls hl => ?_)
            refine lv_goto (tgt := 32) hx hb dX5_firstIllIn_55 (by decide) ?_
            exact hZ1 (ih_32 x_12 _ _ _ (by omega) hP hS hl)
          · have ic_11 : ¬ ((x_9 : Int32).toInt = (0 : Int32).toInt) := fun h9 => c_11 ((fa_eq x_9 0).mpr h9)
            refine lv_iload_n hx hb dX5_firstIllIn_50 rfl (lv_at hl 0 rfl) ?_
            exact W.iret (v := x_5) hx hb hr (fun t ht hW => ⟨⟨x_5, (), rfl, trivial, trivial⟩, hS.F ht⟩) hS.2.2 dX5_firstIllIn_51
    exact hZ1 (L_32 (((2147483647 - (x_3 : Int32).toInt).toNat) + 1) x_3 _ _ _ (by omega) hP hS hl)
  refine lv_icmp_ne (tgt := 26) hx hb dX5_firstIllIn_8 (by decide) (fun c_13 => ?_) (fun c_13 => ?_)
  · have ic_13 : ¬ ((p1 : Int32).toInt = (3 : Int32).toInt) := fun h9 => c_13 ((fa_eq p1 3).mpr h9)
    exact hZ1 (K_26  _ _ _ hP hS (lv_sub hl [1, 2] rfl))
  · have ic_13 : (p1 : Int32).toInt = (3 : Int32).toInt := (fa_eq p1 3).mp c_13
    refine lv_iload_n hx hb dX5_firstIllIn_11 rfl (lv_at hl 0 rfl) ?_
    refine lv_iconst (v := 2) hx hb dX5_firstIllIn_12 (by decide) ?_
    refine lv_icmp_eq (tgt := 26) hx hb dX5_firstIllIn_13 (by decide) (fun c_14 => ?_) (fun c_14 => ?_)
    · have ic_14 : (x_1 : Int32).toInt = (2 : Int32).toInt := (fa_eq x_1 2).mp c_14
      exact hZ1 (K_26  _ _ _ hP hS (lv_sub hl [1, 2] rfl))
    · have ic_14 : ¬ ((x_1 : Int32).toInt = (2 : Int32).toInt) := fun h9 => c_14 ((fa_eq x_1 2).mpr h9)
      refine lv_iload_n hx hb dX5_firstIllIn_16 rfl (lv_at hl 0 rfl) ?_
      refine lv_if_eq (tgt := 26) hx hb dX5_firstIllIn_17 (by decide) (fun c_15 => ?_) (fun c_15 => ?_)
      · have ic_15 : (x_1 : Int32).toInt = (0 : Int32).toInt := (fa_eq x_1 0).mp c_15
        exact hZ1 (K_26  _ _ _ hP hS (lv_sub hl [1, 2] rfl))
      · have ic_15 : ¬ ((x_1 : Int32).toInt = (0 : Int32).toInt) := fun h9 => c_15 ((fa_eq x_1 0).mpr h9)
        refine lv_aload_n hx hb dX5_firstIllIn_20 rfl (lv_at hl 1 rfl) ?_
        refine lv_iload_n hx hb dX5_firstIllIn_21 rfl (lv_at hl 2 rfl) ?_
        have hPc := hP.sub (ws' := [(f, .inr (2, [.ref f_kinds, .ref f_signs, .ref f_sizes, .ref f_places, .ref f_limits, .ref f_starts, .ref f_sorts, .int f_count, .int f_sections, .int f_fifth])), (f_starts, .inl (cI, 4, .inl f_startsF))]) [0, 2] rfl
        refine va_calli (va_runV (As := [.int p1]) (rest := []) ⟨hx, hb, hml, hown, hts⟩ (c_X2_from l D cI cD cJ H.size f f_kinds f_signs f_sizes f_places f_limits f_starts f_sorts f_count f_sections f_fifth f_startsF p1 (by omega) (by omega) (by assumption)) (cwV 1 hts (goodIn_app (goodIn_r _ [5, 6, 7, 4] rfl (by decide +kernel)) (goodIn_sub i_X2_from k_X2_from)) rfl rfl rfl (by decide +kernel) ⟨Nat.le_of_ble_eq_true rfl, Nat.le_of_ble_eq_true rfl⟩) ⟨fun a U g mk q => by obtain ⟨q0, qP, qK⟩ := q; exact ⟨q0, qP, va_K.moved (u := U) (U := U.calling g mk a) (Vm.Alike.refl U.vm) qK⟩, va_recv hK hPc (ci := 2) (q0 := 0) rfl rfl, fun U hU hW => ⟨rfl, by rw [hU]; exact hPc, va_K.moved hW.alike hK⟩⟩ rfl rfl hl.1 rfl (lv_room (Nat.le_of_ble_eq_true rfl)) dX5_firstIllIn_22 ⟨Nat.le_of_ble_eq_true rfl, Nat.le_of_ble_eq_true rfl⟩) hS (fun q _ h => h.elim) (fun q h => h.elim) (fun x_16 u t H1 locs ht hvm w_17 hB hz1 hk1 hS => ?_)
        have hP : va_P D vwCl [(f, .inr (2, [.ref f_kinds, .ref f_signs, .ref f_sizes, .ref f_places, .ref f_limits, .ref f_starts, .ref f_sorts, .int f_count, .int f_sections, .int f_fifth])), (f_kinds, .inl (cI, 255, .inl f_kindsF)), (f_starts, .inl (cI, 4, .inl f_startsF)), (f_sorts, .inl (cI, 4, .inl f_sortsF))] H1 := hP.kept (fun k9 q9 h9 => hk1 q9.1 (vx_lt hP h9) (fun h => h))
        generalize H1 = H at hP hS ⊢
        try dsimp only at w_17
        exact W.iret (v := x_16) hx hb hr (fun t ht hW => ⟨⟨x_16, (), rfl, trivial, trivial⟩, hS.F ht⟩) hS.2.2 dX5_firstIllIn_25

def ow_X5_firstIll : List Cond := [Cond.methodLink RX5 9 yX2_sections, Cond.instanceMethod yX2_sections, Cond.selects RX2 yX2_sections yX2_sections, Cond.initialized RX2, Cond.methodLink RX5 42 yX2_fifthPlace, Cond.instanceMethod yX2_fifthPlace, Cond.selects RX2 yX2_fifthPlace yX2_fifthPlace, Cond.methodLink RX5 15 yX5_sortOf, Cond.static yX5_sortOf, Cond.initialized RX5, Cond.methodLink RX5 21 yX2_setSort, Cond.instanceMethod yX2_setSort, Cond.selects RX2 yX2_setSort yX2_setSort, Cond.methodLink RX5 25 yX2_sort, Cond.instanceMethod yX2_sort, Cond.selects RX2 yX2_sort yX2_sort, Cond.methodLink RX5 36 yX5_firstIllIn, Cond.static yX5_firstIllIn, Cond.methodLink RX5 39 yX2_place, Cond.instanceMethod yX2_place, Cond.selects RX2 yX2_place yX2_place, Cond.methodLink RX5 29 yX5_markMinutes, Cond.static yX5_markMinutes, Cond.methodLink RX5 33 yX5_markTenths, Cond.static yX5_markTenths]
def pw_X5_firstIll : List Cond := Cond.code yX5_firstIll cX5_firstIll 3 (some .int) :: (ow_X5_firstIll ++ (pw_X2_sections ++ (pw_X2_fifthPlace ++ (pw_X5_sortOf ++ (pw_X2_setSort ++ (pw_X2_sort ++ (pw_X5_firstIllIn ++ (pw_X2_place ++ (pw_X5_markMinutes ++ (pw_X5_markTenths))))))))))
set_option maxRecDepth 20000 in
theorem mo_X5_firstIll : ∀ w ∈ ow_X5_firstIll, w ∈ lw_tbl := by decide +kernel
set_option maxRecDepth 20000 in
theorem mc_X5_firstIll : Cond.code yX5_firstIll cX5_firstIll 3 (some .int) ∈ lw_tbl := by decide +kernel
theorem m_X5_firstIll : ∀ w ∈ pw_X5_firstIll, w ∈ lw_tbl := List.forall_mem_cons.mpr ⟨mc_X5_firstIll, (List.forall_mem_append.mpr ⟨mo_X5_firstIll, (List.forall_mem_append.mpr ⟨m_X2_sections, (List.forall_mem_append.mpr ⟨m_X2_fifthPlace, (List.forall_mem_append.mpr ⟨m_X5_sortOf, (List.forall_mem_append.mpr ⟨m_X2_setSort, (List.forall_mem_append.mpr ⟨m_X2_sort, (List.forall_mem_append.mpr ⟨m_X5_firstIllIn, (List.forall_mem_append.mpr ⟨m_X2_place, (List.forall_mem_append.mpr ⟨m_X5_markMinutes, m_X5_markTenths⟩)⟩)⟩)⟩)⟩)⟩)⟩)⟩)⟩)⟩
theorem ko_X5_firstIll : ∀ w ∈ ow_X5_firstIll, goodWord w = true := by decide +kernel
theorem k_X5_firstIll : pw_X5_firstIll.all goodWord = true := List.all_eq_true.mpr (List.forall_mem_cons.mpr ⟨by decide +kernel, (List.forall_mem_append.mpr ⟨ko_X5_firstIll, (List.forall_mem_append.mpr ⟨(List.all_eq_true.mp k_X2_sections), (List.forall_mem_append.mpr ⟨(List.all_eq_true.mp k_X2_fifthPlace), (List.forall_mem_append.mpr ⟨(List.all_eq_true.mp k_X5_sortOf), (List.forall_mem_append.mpr ⟨(List.all_eq_true.mp k_X2_setSort), (List.forall_mem_append.mpr ⟨(List.all_eq_true.mp k_X2_sort), (List.forall_mem_append.mpr ⟨(List.all_eq_true.mp k_X5_firstIllIn), (List.forall_mem_append.mpr ⟨(List.all_eq_true.mp k_X2_place), (List.forall_mem_append.mpr ⟨(List.all_eq_true.mp k_X5_markMinutes), (List.all_eq_true.mp k_X5_markTenths)⟩)⟩)⟩)⟩)⟩)⟩)⟩)⟩)⟩)⟩)
set_option maxHeartbeats 400000 in
set_option maxRecDepth 100000 in
theorem c_X5_firstIll (l : Launch) (D : va_G) (cI cD cJ : ClassId) (sz : Nat) (f : Nat) (f_kinds : Nat) (f_signs : Nat) (f_sizes : Nat) (f_places : Nat) (f_limits : Nat) (f_starts : Nat) (f_sorts : Nat) (f_count : Int32) (f_sections : Int32) (f_fifth : Int32) (f_kindsF : Nat → Int32) (f_signsF : Nat → Int32) (f_sizesF : Nat → Int32) (f_placesF : Nat → Int32) (f_startsF : Nat → Int32) (f_sortsF : Nat → Int32) (iv_f_count : 0 ≤ (f_count : Int32).toInt ∧ (f_count : Int32).toInt ≤ 255) (iv_f_sections : 0 ≤ (f_sections : Int32).toInt ∧ (f_sections : Int32).toInt ≤ 4) (iv_f_sizesF : ∀ k9 : Nat, k9 < 255 → (f_sizesF k9).toInt ≤ 100000) (iv_f_startsF : ∀ k9 : Nat, k9 < 4 → 0 ≤ (f_startsF k9).toInt ∧ (f_startsF k9).toInt ≤ 255) : Met l yX5_firstIll pw_X5_firstIll ({ frames := 6, cells := 0, slots := 0, locals := 137 }) (va_Pc [.ref f] (fun U => U.heap.size = sz ∧ va_P D vwCl [(f, .inr (2, [.ref f_kinds, .ref f_signs, .ref f_sizes, .ref f_places, .ref f_limits, .ref f_starts, .ref f_sorts, .int f_count, .int f_sections, .int f_fifth])), (f_kinds, .inl (cI, 255, .inl f_kindsF)), (f_signs, .inl (cI, 255, .inl f_signsF)), (f_sizes, .inl (cI, 255, .inl f_sizesF)), (f_places, .inl (cI, 255, .inl f_placesF)), (f_starts, .inl (cI, 4, .inl f_startsF)), (f_sorts, .inl (cI, 4, .inl f_sortsF))] U.heap ∧ va_K D vwCl (ty3 cI cD cJ) U ∧ va_D (fun _ => True) [(f, .inr (2, [.ref f_kinds, .ref f_signs, .ref f_sizes, .ref f_places, .ref f_limits, .ref f_starts, .ref f_sorts, .int f_count, .int f_sections, .int f_fifth])), (f_kinds, .inl (cI, 255, .inl f_kindsF)), (f_signs, .inl (cI, 255, .inl f_signsF)), (f_sizes, .inl (cI, 255, .inl f_sizesF)), (f_places, .inl (cI, 255, .inl f_placesF)), (f_starts, .inl (cI, 4, .inl f_startsF)), (f_sorts, .inl (cI, 4, .inl f_sortsF))])) (va_Qi (fun (r : Int32) (u : (Nat → Int32) × (Nat → Int32)) => match u with | (f_kindsF2, f_sortsF2) => True) (fun (u : (Nat → Int32) × (Nat → Int32)) (t : State) => match u with | (f_kindsF2, f_sortsF2) => va_P D vwCl [(f, .inr (2, [.ref f_kinds, .ref f_signs, .ref f_sizes, .ref f_places, .ref f_limits, .ref f_starts, .ref f_sorts, .int f_count, .int f_sections, .int f_fifth])), (f_kinds, .inl (cI, 255, .inl f_kindsF2)), (f_signs, .inl (cI, 255, .inl f_signsF)), (f_sizes, .inl (cI, 255, .inl f_sizesF)), (f_places, .inl (cI, 255, .inl f_placesF)), (f_starts, .inl (cI, 4, .inl f_startsF)), (f_sorts, .inl (cI, 4, .inl f_sortsF2))] t.heap ∧ va_K D vwCl (ty3 cI cD cJ) t ∧ va_D (va_A [(f, .inr (2, [.ref f_kinds, .ref f_signs, .ref f_sizes, .ref f_places, .ref f_limits, .ref f_starts, .ref f_sorts, .int f_count, .int f_sections, .int f_fifth])), (f_kinds, .inl (cI, 255, .inl f_kindsF)), (f_signs, .inl (cI, 255, .inl f_signsF)), (f_sizes, .inl (cI, 255, .inl f_sizesF)), (f_places, .inl (cI, 255, .inl f_placesF)), (f_starts, .inl (cI, 4, .inl f_startsF)), (f_sorts, .inl (cI, 4, .inl f_sortsF))] sz) [(f, .inr (2, [.ref f_kinds, .ref f_signs, .ref f_sizes, .ref f_places, .ref f_limits, .ref f_starts, .ref f_sorts, .int f_count, .int f_sections, .int f_fifth])), (f_kinds, .inl (cI, 255, .inl f_kindsF2)), (f_signs, .inl (cI, 255, .inl f_signsF)), (f_sizes, .inl (cI, 255, .inl f_sizesF)), (f_places, .inl (cI, 255, .inl f_placesF)), (f_starts, .inl (cI, 4, .inl f_startsF)), (f_sorts, .inl (cI, 4, .inl f_sortsF2))]) (va_A [(f, .inr (2, [.ref f_kinds, .ref f_signs, .ref f_sizes, .ref f_places, .ref f_limits, .ref f_starts, .ref f_sorts, .int f_count, .int f_sections, .int f_fifth])), (f_kinds, .inl (cI, 255, .inl f_kindsF)), (f_signs, .inl (cI, 255, .inl f_signsF)), (f_sizes, .inl (cI, 255, .inl f_sizesF)), (f_places, .inl (cI, 255, .inl f_placesF)), (f_starts, .inl (cI, 4, .inl f_startsF)), (f_sorts, .inl (cI, 4, .inl f_sortsF))] sz)) 0 0 (va_A [(f, .inr (2, [.ref f_kinds, .ref f_signs, .ref f_sizes, .ref f_places, .ref f_limits, .ref f_starts, .ref f_sorts, .int f_count, .int f_sections, .int f_fifth])), (f_kinds, .inl (cI, 255, .inl f_kindsF)), (f_signs, .inl (cI, 255, .inl f_signsF)), (f_sizes, .inl (cI, 255, .inl f_sizesF)), (f_places, .inl (cI, 255, .inl f_placesF)), (f_starts, .inl (cI, 4, .inl f_startsF)), (f_sorts, .inl (cI, 4, .inl f_sortsF))] sz) := by
  refine Met.ofW (cc := cX5_firstIll) (maxL := 3) (ret := (some .int)) (by decide +kernel) rfl ?_
  intro p e s m args below meth c s₁ B hml hv
  obtain ⟨rfl, hsz, hP, hK, hD0⟩ := hv
  have hx := B.exec
  have hb := B.bytes
  have hr := B.returns
  have hts := atoms_spec (ws := pw_X5_firstIll) B.pre
  have hown : s.vm.findClass RX5 = some m.cls := findClass_of_methodNamed B.named
  have hlocks := B.notSynchronized
  subst hsz
  have hD := hD0.self (sz := s.heap.size)
  generalize hAe : va_A [(f, .inr (2, [.ref f_kinds, .ref f_signs, .ref f_sizes, .ref f_places, .ref f_limits, .ref f_starts, .ref f_sorts, .int f_count, .int f_sections, .int f_fifth])), (f_kinds, .inl (cI, 255, .inl f_kindsF)), (f_signs, .inl (cI, 255, .inl f_signsF)), (f_sizes, .inl (cI, 255, .inl f_sizesF)), (f_places, .inl (cI, 255, .inl f_placesF)), (f_starts, .inl (cI, 4, .inl f_startsF)), (f_sorts, .inl (cI, 4, .inl f_sortsF))] s.heap.size = A at hD ⊢
  have hA : ∀ q : Nat, s.heap.size ≤ q → A q := fun q h => by rw [← hAe]; exact Or.inr h
  have hS : va_S A s.heap s.heap [] := va_S.rf
  have hw : ∀ (k : Nat) (w : Cond), ow_X5_firstIll[k]? = some w → w.before _ s = true := fun k w h => hts w (List.mem_cons_of_mem _ (have h9 := List.mem_of_getElem? h; List.mem_append_left _ h9))
  have i_X2_sections : ∀ w ∈ pw_X2_sections, w ∈ pw_X5_firstIll := fun w h9 => List.mem_cons_of_mem _ (List.mem_append_right _ (List.mem_append_left _ h9))
  have i_X2_fifthPlace : ∀ w ∈ pw_X2_fifthPlace, w ∈ pw_X5_firstIll := fun w h9 => List.mem_cons_of_mem _ (List.mem_append_right _ (List.mem_append_right _ (List.mem_append_left _ h9)))
  have i_X5_sortOf : ∀ w ∈ pw_X5_sortOf, w ∈ pw_X5_firstIll := fun w h9 => List.mem_cons_of_mem _ (List.mem_append_right _ (List.mem_append_right _ (List.mem_append_right _ (List.mem_append_left _ h9))))
  have i_X2_setSort : ∀ w ∈ pw_X2_setSort, w ∈ pw_X5_firstIll := fun w h9 => List.mem_cons_of_mem _ (List.mem_append_right _ (List.mem_append_right _ (List.mem_append_right _ (List.mem_append_right _ (List.mem_append_left _ h9)))))
  have i_X2_sort : ∀ w ∈ pw_X2_sort, w ∈ pw_X5_firstIll := fun w h9 => List.mem_cons_of_mem _ (List.mem_append_right _ (List.mem_append_right _ (List.mem_append_right _ (List.mem_append_right _ (List.mem_append_right _ (List.mem_append_left _ h9))))))
  have i_X5_firstIllIn : ∀ w ∈ pw_X5_firstIllIn, w ∈ pw_X5_firstIll := fun w h9 => List.mem_cons_of_mem _ (List.mem_append_right _ (List.mem_append_right _ (List.mem_append_right _ (List.mem_append_right _ (List.mem_append_right _ (List.mem_append_right _ (List.mem_append_left _ h9)))))))
  have i_X2_place : ∀ w ∈ pw_X2_place, w ∈ pw_X5_firstIll := fun w h9 => List.mem_cons_of_mem _ (List.mem_append_right _ (List.mem_append_right _ (List.mem_append_right _ (List.mem_append_right _ (List.mem_append_right _ (List.mem_append_right _ (List.mem_append_right _ (List.mem_append_left _ h9))))))))
  have i_X5_markMinutes : ∀ w ∈ pw_X5_markMinutes, w ∈ pw_X5_firstIll := fun w h9 => List.mem_cons_of_mem _ (List.mem_append_right _ (List.mem_append_right _ (List.mem_append_right _ (List.mem_append_right _ (List.mem_append_right _ (List.mem_append_right _ (List.mem_append_right _ (List.mem_append_right _ (List.mem_append_left _ h9)))))))))
  have i_X5_markTenths : ∀ w ∈ pw_X5_markTenths, w ∈ pw_X5_firstIll := fun w h9 => List.mem_cons_of_mem _ (List.mem_append_right _ (List.mem_append_right _ (List.mem_append_right _ (List.mem_append_right _ (List.mem_append_right _ (List.mem_append_right _ (List.mem_append_right _ (List.mem_append_right _ (List.mem_append_right _ (h9))))))))))
  have n_m1 : (((-1) : Int32)).toInt = (-1) := by decide
  have n_0 : ((0 : Int32)).toInt = 0 := by decide
  have n_1 : ((1 : Int32)).toInt = 1 := by decide
  have hl := lv_entry ([.ref f]) (n := 3) (Nat.le_of_ble_eq_true rfl)
  rw [lg_entry_eq]
  generalize (lg_sl ([.ref f]) ++ List.replicate (3 - (lg_sl ([.ref f])).length) Slot.unset).toArray = ls at hl ⊢
  have hl : lv_has ls 3 [(0, .ref f)] := hl
  refine zz_cap (fun Z hZ1 hZ2 => ?_)
  refine lv_iconst (v := 0) hx hb dX5_firstIll_0 (by decide) ?_
  refine lv_istore_n (lv' := [(1, .int 0), (0, .ref f)]) hx hb dX5_firstIll_1 rfl hl (by decide) rfl (fun ls hl => ?_)
  have L_2 : ∀ (N : Nat) (x_1 : Int32) (f_2 : Nat → Int32) (f_3 : Nat → Int32) (H : Heap) (locs : List Loc) (ls : Array Slot), (0 ≤ (x_1 : Int32).toInt) → ((2147483647 - (x_1 : Int32).toInt).toNat < N) → va_P D vwCl [(f, .inr (2, [.ref f_kinds, .ref f_signs, .ref f_sizes, .ref f_places, .ref f_limits, .ref f_starts, .ref f_sorts, .int f_count, .int f_sections, .int f_fifth])), (f_kinds, .inl (cI, 255, .inl f_2)), (f_signs, .inl (cI, 255, .inl f_signsF)), (f_sizes, .inl (cI, 255, .inl f_sizesF)), (f_places, .inl (cI, 255, .inl f_placesF)), (f_starts, .inl (cI, 4, .inl f_startsF)), (f_sorts, .inl (cI, 4, .inl f_3))] H → va_D A [(f, .inr (2, [.ref f_kinds, .ref f_signs, .ref f_sizes, .ref f_places, .ref f_limits, .ref f_starts, .ref f_sorts, .int f_count, .int f_sections, .int f_fifth])), (f_kinds, .inl (cI, 255, .inl f_2)), (f_signs, .inl (cI, 255, .inl f_signsF)), (f_sizes, .inl (cI, 255, .inl f_sizesF)), (f_places, .inl (cI, 255, .inl f_placesF)), (f_starts, .inl (cI, 4, .inl f_startsF)), (f_sorts, .inl (cI, 4, .inl f_3))] → va_S A s.heap H locs → lv_has ls 3 [(1, .int x_1), (0, .ref f)] → Z 0 0 H locs (F0 m 2 ls []) := by
    intro N
    induction N with
    | zero => intro _ _ _ _ _ _ _ hmu; exact absurd hmu (Nat.not_lt_zero _)
    | succ N ih_2 =>
      intro x_1 f_2 f_3 H locs ls g2_0 hmu hP hD hS hl
      refine hZ2 ?_
      refine lv_iload_n hx hb dX5_firstIll_2 rfl (lv_at hl 0 rfl) ?_
      refine lv_aload_n hx hb dX5_firstIll_3 rfl (lv_at hl 1 rfl) ?_
      have hPc := hP.sub (ws' := [(f, .inr (2, [.ref f_kinds, .ref f_signs, .ref f_sizes, .ref f_places, .ref f_limits, .ref f_starts, .ref f_sorts, .int f_count, .int f_sections, .int f_fifth]))]) [0] rfl
      refine va_calli (va_runV (As := []) (rest := [.int x_1]) ⟨hx, hb, hml, hown, hts⟩ (c_X2_sections l D cI cD cJ H.size f f_kinds f_signs f_sizes f_places f_limits f_starts f_sorts f_count f_sections f_fifth (by omega) (by omega)) (cwV 0 hts (goodIn_app (goodIn_r _ [1, 2, 3, 4] rfl (by decide +kernel)) (goodIn_sub i_X2_sections k_X2_sections)) rfl rfl rfl (by decide +kernel) ⟨Nat.le_of_ble_eq_true rfl, Nat.le_of_ble_eq_true rfl⟩) ⟨fun a U g mk q => by obtain ⟨q0, qP, qK⟩ := q; exact ⟨q0, qP, va_K.moved (u := U) (U := U.calling g mk a) (Vm.Alike.refl U.vm) qK⟩, va_recv hK hPc (ci := 2) (q0 := 0) rfl rfl, fun U hU hW => ⟨rfl, by rw [hU]; exact hPc, va_K.moved hW.alike hK⟩⟩ rfl rfl hl.1 rfl (lv_room (Nat.le_of_ble_eq_true rfl)) dX5_firstIll_4 ⟨Nat.le_of_ble_eq_true rfl, Nat.le_of_ble_eq_true rfl⟩) hS (fun q _ h => h.elim) (fun q h => h.elim) (fun x_4 u t H1 locs ht hvm w_5 hB hz1 hk1 hS => ?_)
      have hP : va_P D vwCl [(f, .inr (2, [.ref f_kinds, .ref f_signs, .ref f_sizes, .ref f_places, .ref f_limits, .ref f_starts, .ref f_sorts, .int f_count, .int f_sections, .int f_fifth])), (f_kinds, .inl (cI, 255, .inl f_2)), (f_signs, .inl (cI, 255, .inl f_signsF)), (f_sizes, .inl (cI, 255, .inl f_sizesF)), (f_places, .inl (cI, 255, .inl f_placesF)), (f_starts, .inl (cI, 4, .inl f_startsF)), (f_sorts, .inl (cI, 4, .inl f_3))] H1 := hP.kept (fun k9 q9 h9 => hk1 q9.1 (vx_lt hP h9) (fun h => h))
      generalize H1 = H at hP hS ⊢
      try dsimp only at w_5
      refine lv_icmp_ge (tgt := 62) hx hb dX5_firstIll_7 (by decide) (fun c_6 => ?_) (fun c_6 => ?_)
      · have ic_6 : (x_4 : Int32).toInt ≤ (x_1 : Int32).toInt := (fa_le x_4 x_1).mp c_6
        refine lv_aload_n hx hb dX5_firstIll_62 rfl (lv_at hl 1 rfl) ?_
        have hPc := hP.sub (ws' := [(f, .inr (2, [.ref f_kinds, .ref f_signs, .ref f_sizes, .ref f_places, .ref f_limits, .ref f_starts, .ref f_sorts, .int f_count, .int f_sections, .int f_fifth]))]) [0] rfl
        refine va_calli (va_runV (As := []) (rest := []) ⟨hx, hb, hml, hown, hts⟩ (c_X2_fifthPlace l D cI cD cJ H.size f f_kinds f_signs f_sizes f_places f_limits f_starts f_sorts f_count f_sections f_fifth (by omega) (by omega)) (cwV 0 hts (goodIn_app (goodIn_r _ [5, 6, 7, 4] rfl (by decide +kernel)) (goodIn_sub i_X2_fifthPlace k_X2_fifthPlace)) rfl rfl rfl (by decide +kernel) ⟨Nat.le_of_ble_eq_true rfl, Nat.le_of_ble_eq_true rfl⟩) ⟨fun a U g mk q => by obtain ⟨q0, qP, qK⟩ := q; exact ⟨q0, qP, va_K.moved (u := U) (U := U.calling g mk a) (Vm.Alike.refl U.vm) qK⟩, va_recv hK hPc (ci := 2) (q0 := 0) rfl rfl, fun U hU hW => ⟨rfl, by rw [hU]; exact hPc, va_K.moved hW.alike hK⟩⟩ rfl rfl hl.1 rfl (lv_room (Nat.le_of_ble_eq_true rfl)) dX5_firstIll_63 ⟨Nat.le_of_ble_eq_true rfl, Nat.le_of_ble_eq_true rfl⟩) hS (fun q _ h => h.elim) (fun q h => h.elim) (fun x_7 u t H1 locs ht hvm w_8 hB hz1 hk1 hS => ?_)
        have hP : va_P D vwCl [(f, .inr (2, [.ref f_kinds, .ref f_signs, .ref f_sizes, .ref f_places, .ref f_limits, .ref f_starts, .ref f_sorts, .int f_count, .int f_sections, .int f_fifth])), (f_kinds, .inl (cI, 255, .inl f_2)), (f_signs, .inl (cI, 255, .inl f_signsF)), (f_sizes, .inl (cI, 255, .inl f_sizesF)), (f_places, .inl (cI, 255, .inl f_placesF)), (f_starts, .inl (cI, 4, .inl f_startsF)), (f_sorts, .inl (cI, 4, .inl f_3))] H1 := hP.kept (fun k9 q9 h9 => hk1 q9.1 (vx_lt hP h9) (fun h => h))
        generalize H1 = H at hP hS ⊢
        have b_x_7 := ti_b x_7
        have hP9 := hP.sub (ws' := [(f, .inr (2, [.ref f_kinds, .ref f_signs, .ref f_sizes, .ref f_places, .ref f_limits, .ref f_starts, .ref f_sorts, .int f_count, .int f_sections, .int f_fifth])), (f_kinds, .inl (cI, 255, .inl f_2)), (f_signs, .inl (cI, 255, .inl f_signsF)), (f_sizes, .inl (cI, 255, .inl f_sizesF)), (f_places, .inl (cI, 255, .inl f_placesF)), (f_starts, .inl (cI, 4, .inl f_startsF)), (f_sorts, .inl (cI, 4, .inl f_3))]) [0, 1, 2, 3, 4, 5, 6] rfl
        have hD9 := hD.sub (ws' := [(f, .inr (2, [.ref f_kinds, .ref f_signs, .ref f_sizes, .ref f_places, .ref f_limits, .ref f_starts, .ref f_sorts, .int f_count, .int f_sections, .int f_fifth])), (f_kinds, .inl (cI, 255, .inl f_2)), (f_signs, .inl (cI, 255, .inl f_signsF)), (f_sizes, .inl (cI, 255, .inl f_sizesF)), (f_places, .inl (cI, 255, .inl f_placesF)), (f_starts, .inl (cI, 4, .inl f_startsF)), (f_sorts, .inl (cI, 4, .inl f_3))]) [0, 1, 2, 3, 4, 5, 6] (by decide) rfl
        exact W.iret (v := x_7) hx hb hr (fun t ht hW => ⟨⟨x_7, (f_2, f_3), rfl, trivial, by rw [ht]; exact hP9, va_K.moved hW.alike hK, hD9⟩, hS.F ht⟩) hS.2.2 dX5_firstIll_66
      · have ic_6 : ¬ ((x_4 : Int32).toInt ≤ (x_1 : Int32).toInt) := fun h9 => c_6 ((fa_le x_4 x_1).mpr h9)
        refine lv_aload_n hx hb dX5_firstIll_10 rfl (lv_at hl 1 rfl) ?_
        refine lv_iload_n hx hb dX5_firstIll_11 rfl (lv_at hl 0 rfl) ?_
        refine lv_aload_n hx hb dX5_firstIll_12 rfl (lv_at hl 1 rfl) ?_
        refine lv_iload_n hx hb dX5_firstIll_13 rfl (lv_at hl 0 rfl) ?_
        have hPc := hP.sub (ws' := [(f, .inr (2, [.ref f_kinds, .ref f_signs, .ref f_sizes, .ref f_places, .ref f_limits, .ref f_starts, .ref f_sorts, .int f_count, .int f_sections, .int f_fifth])), (f_kinds, .inl (cI, 255, .inl f_2)), (f_starts, .inl (cI, 4, .inl f_startsF))]) [0, 1, 5] rfl
        refine va_calli (va_runS (As := [.ref f, .int x_1]) (rest := [.int x_1, .ref f]) ⟨hx, hb, hml, hown, hts⟩ (c_X5_sortOf l D cI cD cJ H.size f f_kinds f_signs f_sizes f_places f_limits f_starts f_sorts f_count f_sections f_fifth f_2 f_startsF x_1 (by omega) (by omega) (by omega) (by assumption)) (va_cwS 2 hts (goodIn_app (goodIn_r _ [8, 9, 10] rfl (by decide +kernel)) (goodIn_sub i_X5_sortOf k_X5_sortOf)) rfl rfl rfl (by decide +kernel) ⟨Nat.le_of_ble_eq_true rfl, Nat.le_of_ble_eq_true rfl⟩) ⟨fun a U g mk q => by obtain ⟨q0, qP, qK⟩ := q; exact ⟨q0, qP, va_K.moved (u := U) (U := U.calling g mk a) (Vm.Alike.refl U.vm) qK⟩, fun U hU hW => ⟨rfl, by rw [hU]; exact hPc, va_K.moved hW.alike hK⟩⟩ rfl rfl hl.1 rfl (lv_room (Nat.le_of_ble_eq_true rfl)) dX5_firstIll_14 ⟨Nat.le_of_ble_eq_true rfl, Nat.le_of_ble_eq_true rfl⟩) hS (fun q _ h => h.elim) (fun q h => h.elim) (fun x_9 u t H1 locs ht hvm w_10 hB hz1 hk1 hS => ?_)
        have hP : va_P D vwCl [(f, .inr (2, [.ref f_kinds, .ref f_signs, .ref f_sizes, .ref f_places, .ref f_limits, .ref f_starts, .ref f_sorts, .int f_count, .int f_sections, .int f_fifth])), (f_kinds, .inl (cI, 255, .inl f_2)), (f_signs, .inl (cI, 255, .inl f_signsF)), (f_sizes, .inl (cI, 255, .inl f_sizesF)), (f_places, .inl (cI, 255, .inl f_placesF)), (f_starts, .inl (cI, 4, .inl f_startsF)), (f_sorts, .inl (cI, 4, .inl f_3))] H1 := hP.kept (fun k9 q9 h9 => hk1 q9.1 (vx_lt hP h9) (fun h => h))
        generalize H1 = H at hP hS ⊢
        have b_x_9 := ti_b x_9
        have hPc := hP.sub (ws' := [(f, .inr (2, [.ref f_kinds, .ref f_signs, .ref f_sizes, .ref f_places, .ref f_limits, .ref f_starts, .ref f_sorts, .int f_count, .int f_sections, .int f_fifth])), (f_sorts, .inl (cI, 4, .inl f_3))]) [0, 6] rfl
        have hDc := hD.sub (ws' := [(f, .inr (2, [.ref f_kinds, .ref f_signs, .ref f_sizes, .ref f_places, .ref f_limits, .ref f_starts, .ref f_sorts, .int f_count, .int f_sections, .int f_fifth])), (f_sorts, .inl (cI, 4, .inl f_3))]) [0, 6] (by decide) rfl
        have hFc := va_free (wc := [(f, .inr (2, [.ref f_kinds, .ref f_signs, .ref f_sizes, .ref f_places, .ref f_limits, .ref f_starts, .ref f_sorts, .int f_count, .int f_sections, .int f_fifth])), (f_sorts, .inl (cI, 4, .inl f_3))]) hD hS hA [0, 6] rfl
        refine va_callv (va_runV (As := [.int x_1, .int x_9]) (rest := []) ⟨hx, hb, hml, hown, hts⟩ (c_X2_setSort l D cI cD cJ H.size f f_kinds f_signs f_sizes f_places f_limits f_starts f_sorts f_count f_sections f_fifth f_3 x_1 x_9 (by omega) (by omega)) (cwV 2 hts (goodIn_app (goodIn_r _ [11, 12, 13, 4] rfl (by decide +kernel)) (goodIn_sub i_X2_setSort k_X2_setSort)) rfl rfl rfl (by decide +kernel) ⟨Nat.le_of_ble_eq_true rfl, Nat.le_of_ble_eq_true rfl⟩) ⟨fun a U g mk q => by obtain ⟨q0, q1, qP, qK, qD⟩ := q; exact ⟨q0, q1, qP, va_K.moved (u := U) (U := U.calling g mk a) (Vm.Alike.refl U.vm) qK, qD⟩, va_recv hK hPc (ci := 2) (q0 := 0) rfl rfl, fun U hU hW => ⟨rfl, by rw [hU], by rw [hU]; exact hPc, va_K.moved hW.alike hK, hDc.weaken (fun _ _ _ _ => trivial)⟩⟩ rfl rfl hl.1 rfl (lv_room (Nat.le_of_ble_eq_true rfl)) dX5_firstIll_17 ⟨Nat.le_of_ble_eq_true rfl, Nat.le_of_ble_eq_true rfl⟩) hS (fun q _ h => hFc q h) hFc (fun u t H1 locs ht hvm w_11 hB hz1 hk1 hS => ?_)
        generalize u = u_12 at w_11 hB
        obtain ⟨hP1, hK1, hD1⟩ := hB
        rw [ht] at hP1
        obtain ⟨hP, hD⟩ := va_join (wr := [(f_kinds, .inl (cI, 255, .inl f_2)), (f_signs, .inl (cI, 255, .inl f_signsF)), (f_sizes, .inl (cI, 255, .inl f_sizesF)), (f_places, .inl (cI, 255, .inl f_placesF)), (f_starts, .inl (cI, 4, .inl f_startsF))]) (w1 := [(f, .inr (2, [.ref f_kinds, .ref f_signs, .ref f_sizes, .ref f_places, .ref f_limits, .ref f_starts, .ref f_sorts, .int f_count, .int f_sections, .int f_fifth])), (f_sorts, .inl (cI, 4, .inl u_12))]) hP hD [0, 6] [1, 2, 3, 4, 5] rfl rfl (by decide) (by decide) hk1 hFc hP1 hD1
        generalize H1 = H at hP hS ⊢
        have hP : va_P D vwCl [(f_kinds, .inl (cI, 255, .inl f_2)), (f_signs, .inl (cI, 255, .inl f_signsF)), (f_sizes, .inl (cI, 255, .inl f_sizesF)), (f_places, .inl (cI, 255, .inl f_placesF)), (f_starts, .inl (cI, 4, .inl f_startsF)), (f, .inr (2, [.ref f_kinds, .ref f_signs, .ref f_sizes, .ref f_places, .ref f_limits, .ref f_starts, .ref f_sorts, .int f_count, .int f_sections, .int f_fifth])), (f_sorts, .inl (cI, 4, .inl u_12))] H := hP
        have hD : va_D A [(f_kinds, .inl (cI, 255, .inl f_2)), (f_signs, .inl (cI, 255, .inl f_signsF)), (f_sizes, .inl (cI, 255, .inl f_sizesF)), (f_places, .inl (cI, 255, .inl f_placesF)), (f_starts, .inl (cI, 4, .inl f_startsF)), (f, .inr (2, [.ref f_kinds, .ref f_signs, .ref f_sizes, .ref f_places, .ref f_limits, .ref f_starts, .ref f_sorts, .int f_count, .int f_sections, .int f_fifth])), (f_sorts, .inl (cI, 4, .inl u_12))] := hD
        refine lv_aload_n hx hb dX5_firstIll_20 rfl (lv_at hl 1 rfl) ?_
        refine lv_iload_n hx hb dX5_firstIll_21 rfl (lv_at hl 0 rfl) ?_
        have hPc := hP.sub (ws' := [(f, .inr (2, [.ref f_kinds, .ref f_signs, .ref f_sizes, .ref f_places, .ref f_limits, .ref f_starts, .ref f_sorts, .int f_count, .int f_sections, .int f_fifth])), (f_sorts, .inl (cI, 4, .inl u_12))]) [5, 6] rfl
        refine va_calli (va_runV (As := [.int x_1]) (rest := []) ⟨hx, hb, hml, hown, hts⟩ (c_X2_sort l D cI cD cJ H.size f f_kinds f_signs f_sizes f_places f_limits f_starts f_sorts f_count f_sections f_fifth u_12 x_1 (by omega) (by omega)) (cwV 1 hts (goodIn_app (goodIn_r _ [14, 15, 16, 4] rfl (by decide +kernel)) (goodIn_sub i_X2_sort k_X2_sort)) rfl rfl rfl (by decide +kernel) ⟨Nat.le_of_ble_eq_true rfl, Nat.le_of_ble_eq_true rfl⟩) ⟨fun a U g mk q => by obtain ⟨q0, qP, qK⟩ := q; exact ⟨q0, qP, va_K.moved (u := U) (U := U.calling g mk a) (Vm.Alike.refl U.vm) qK⟩, va_recv hK hPc (ci := 2) (q0 := 0) rfl rfl, fun U hU hW => ⟨rfl, by rw [hU]; exact hPc, va_K.moved hW.alike hK⟩⟩ rfl rfl hl.1 rfl (lv_room (Nat.le_of_ble_eq_true rfl)) dX5_firstIll_22 ⟨Nat.le_of_ble_eq_true rfl, Nat.le_of_ble_eq_true rfl⟩) hS (fun q _ h => h.elim) (fun q h => h.elim) (fun x_13 u t H1 locs ht hvm w_14 hB hz1 hk1 hS => ?_)
        have hP : va_P D vwCl [(f_kinds, .inl (cI, 255, .inl f_2)), (f_signs, .inl (cI, 255, .inl f_signsF)), (f_sizes, .inl (cI, 255, .inl f_sizesF)), (f_places, .inl (cI, 255, .inl f_placesF)), (f_starts, .inl (cI, 4, .inl f_startsF)), (f, .inr (2, [.ref f_kinds, .ref f_signs, .ref f_sizes, .ref f_places, .ref f_limits, .ref f_starts, .ref f_sorts, .int f_count, .int f_sections, .int f_fifth])), (f_sorts, .inl (cI, 4, .inl u_12))] H1 := hP.kept (fun k9 q9 h9 => hk1 q9.1 (vx_lt hP h9) (fun h => h))
        generalize H1 = H at hP hS ⊢
        have b_x_13 := ti_b x_13
        refine lv_iconst (v := 1) hx hb dX5_firstIll_25 (by decide) ?_
        have K_39 : ∀ (f_15 : Nat → Int32) (H : Heap) (locs : List Loc) (ls : Array Slot), va_P D vwCl [(f_kinds, .inl (cI, 255, .inl f_15)), (f_signs, .inl (cI, 255, .inl f_signsF)), (f_sizes, .inl (cI, 255, .inl f_sizesF)), (f_places, .inl (cI, 255, .inl f_placesF)), (f_starts, .inl (cI, 4, .inl f_startsF)), (f, .inr (2, [.ref f_kinds, .ref f_signs, .ref f_sizes, .ref f_places, .ref f_limits, .ref f_starts, .ref f_sorts, .int f_count, .int f_sections, .int f_fifth])), (f_sorts, .inl (cI, 4, .inl u_12))] H → va_D A [(f_kinds, .inl (cI, 255, .inl f_15)), (f_signs, .inl (cI, 255, .inl f_signsF)), (f_sizes, .inl (cI, 255, .inl f_sizesF)), (f_places, .inl (cI, 255, .inl f_placesF)), (f_starts, .inl (cI, 4, .inl f_startsF)), (f, .inr (2, [.ref f_kinds, .ref f_signs, .ref f_sizes, .ref f_places, .ref f_limits, .ref f_starts, .ref f_sorts, .int f_count, .int f_sections, .int f_fifth])), (f_sorts, .inl (cI, 4, .inl u_12))] → va_S A s.heap H locs → lv_has ls 3 [(1, .int x_1), (0, .ref f)] → Z 0 0 H locs (F0 m 39 ls []) := by
          intro f_15 H locs ls  hP hD hS hl
          refine hZ2 ?_
          refine lv_aload_n hx hb dX5_firstIll_39 rfl (lv_at hl 1 rfl) ?_
          refine lv_iload_n hx hb dX5_firstIll_40 rfl (lv_at hl 0 rfl) ?_
          have hPc := hP.sub (ws' := [(f, .inr (2, [.ref f_kinds, .ref f_signs, .ref f_sizes, .ref f_places, .ref f_limits, .ref f_starts, .ref f_sorts, .int f_count, .int f_sections, .int f_fifth])), (f_kinds, .inl (cI, 255, .inl f_15)), (f_starts, .inl (cI, 4, .inl f_startsF)), (f_sorts, .inl (cI, 4, .inl u_12))]) [5, 0, 4, 6] rfl
          refine va_calli (va_runS (As := [.ref f, .int x_1]) (rest := []) ⟨hx, hb, hml, hown, hts⟩ (c_X5_firstIllIn l D cI cD cJ H.size f f_kinds f_signs f_sizes f_places f_limits f_starts f_sorts f_count f_sections f_fifth f_15 f_startsF u_12 x_1 (by omega) (by omega) (by omega) (by assumption)) (va_cwS 2 hts (goodIn_app (goodIn_r _ [17, 18, 10] rfl (by decide +kernel)) (goodIn_sub i_X5_firstIllIn k_X5_firstIllIn)) rfl rfl rfl (by decide +kernel) ⟨Nat.le_of_ble_eq_true rfl, Nat.le_of_ble_eq_true rfl⟩) ⟨fun a U g mk q => by obtain ⟨q0, qP, qK⟩ := q; exact ⟨q0, qP, va_K.moved (u := U) (U := U.calling g mk a) (Vm.Alike.refl U.vm) qK⟩, fun U hU hW => ⟨rfl, by rw [hU]; exact hPc, va_K.moved hW.alike hK⟩⟩ rfl rfl hl.1 rfl (lv_room (Nat.le_of_ble_eq_true rfl)) dX5_firstIll_41 ⟨Nat.le_of_ble_eq_true rfl, Nat.le_of_ble_eq_true rfl⟩) hS (fun q _ h => h.elim) (fun q h => h.elim) (fun x_16 u t H1 locs ht hvm w_17 hB hz1 hk1 hS => ?_)
          have hP : va_P D vwCl [(f_kinds, .inl (cI, 255, .inl f_15)), (f_signs, .inl (cI, 255, .inl f_signsF)), (f_sizes, .inl (cI, 255, .inl f_sizesF)), (f_places, .inl (cI, 255, .inl f_placesF)), (f_starts, .inl (cI, 4, .inl f_startsF)), (f, .inr (2, [.ref f_kinds, .ref f_signs, .ref f_sizes, .ref f_places, .ref f_limits, .ref f_starts, .ref f_sorts, .int f_count, .int f_sections, .int f_fifth])), (f_sorts, .inl (cI, 4, .inl u_12))] H1 := hP.kept (fun k9 q9 h9 => hk1 q9.1 (vx_lt hP h9) (fun h => h))
          generalize H1 = H at hP hS ⊢
          have b_x_16 := ti_b x_16
          refine lv_istore_n (lv' := [(2, .int x_16), (1, .int x_1), (0, .ref f)]) hx hb dX5_firstIll_44 rfl hl (by decide) rfl (fun ls hl => ?_)
          refine lv_iload_n hx hb dX5_firstIll_45 rfl (lv_at hl 0 rfl) ?_
          refine lv_iconst (v := (-1)) hx hb dX5_firstIll_46 (by decide) ?_
          refine lv_icmp_eq (tgt := 56) hx hb dX5_firstIll_47 (by decide) (fun c_18 => ?_) (fun c_18 => ?_)
          · have ic_18 : (x_16 : Int32).toInt = ((-1) : Int32).toInt := (fa_eq x_16 (-1)).mp c_18
            obtain ⟨x_19, ex_19⟩ : ∃ y : Int32, y = x_1 + 1 := ⟨_, rfl⟩
            have b_x_1 := ti_b x_1
            have tx_19 := ti_add ex_19
            refine lv_iinc (v := x_19) (lv' := [(1, .int x_19), (2, .int x_16), (0, .ref f)]) hx hb dX5_firstIll_56 hl (k := 1) rfl (by rw [ex_19]; rfl) (by decide) rfl (fun ls hl => ?_)
            refine lv_goto (tgt := 2) hx hb dX5_firstIll_59 (by decide) ?_
            exact hZ1 (ih_2 x_19 f_15 u_12 _ _ _ (by omega) (by omega) (hP.sub [5, 0, 1, 2, 3, 4, 6] rfl) (hD.sub [5, 0, 1, 2, 3, 4, 6] (by decide) rfl) hS (lv_sub hl [0, 2] rfl))
          · have ic_18 : ¬ ((x_16 : Int32).toInt = ((-1) : Int32).toInt) := fun h9 => c_18 ((fa_eq x_16 (-1)).mpr h9)
            refine lv_aload_n hx hb dX5_firstIll_50 rfl (lv_at hl 2 rfl) ?_
            refine lv_iload_n hx hb dX5_firstIll_51 rfl (lv_at hl 0 rfl) ?_
            have hPc := hP.sub (ws' := [(f, .inr (2, [.ref f_kinds, .ref f_signs, .ref f_sizes, .ref f_places, .ref f_limits, .ref f_starts, .ref f_sorts, .int f_count, .int f_sections, .int f_fifth])), (f_places, .inl (cI, 255, .inl f_placesF))]) [5, 3] rfl
            refine va_calli (va_runV (As := [.int x_16]) (rest := []) ⟨hx, hb, hml, hown, hts⟩ (c_X2_place l D cI cD cJ H.size f f_kinds f_signs f_sizes f_places f_limits f_starts f_sorts f_count f_sections f_fifth f_placesF x_16 (by omega) (by omega)) (cwV 1 hts (goodIn_app (goodIn_r _ [19, 20, 21, 4] rfl (by decide +kernel)) (goodIn_sub i_X2_place k_X2_place)) rfl rfl rfl (by decide +kernel) ⟨Nat.le_of_ble_eq_true rfl, Nat.le_of_ble_eq_true rfl⟩) ⟨fun a U g mk q => by obtain ⟨q0, qP, qK⟩ := q; exact ⟨q0, qP, va_K.moved (u := U) (U := U.calling g mk a) (Vm.Alike.refl U.vm) qK⟩, va_recv hK hPc (ci := 2) (q0 := 0) rfl rfl, fun U hU hW => ⟨rfl, by rw [hU]; exact hPc, va_K.moved hW.alike hK⟩⟩ rfl rfl hl.1 rfl (lv_room (Nat.le_of_ble_eq_true rfl)) dX5_firstIll_52 ⟨Nat.le_of_ble_eq_true rfl, Nat.le_of_ble_eq_true rfl⟩) hS (fun q _ h => h.elim) (fun q h => h.elim) (fun x_20 u t H1 locs ht hvm w_21 hB hz1 hk1 hS => ?_)
            have hP : va_P D vwCl [(f_kinds, .inl (cI, 255, .inl f_15)), (f_signs, .inl (cI, 255, .inl f_signsF)), (f_sizes, .inl (cI, 255, .inl f_sizesF)), (f_places, .inl (cI, 255, .inl f_placesF)), (f_starts, .inl (cI, 4, .inl f_startsF)), (f, .inr (2, [.ref f_kinds, .ref f_signs, .ref f_sizes, .ref f_places, .ref f_limits, .ref f_starts, .ref f_sorts, .int f_count, .int f_sections, .int f_fifth])), (f_sorts, .inl (cI, 4, .inl u_12))] H1 := hP.kept (fun k9 q9 h9 => hk1 q9.1 (vx_lt hP h9) (fun h => h))
            generalize H1 = H at hP hS ⊢
            have b_x_20 := ti_b x_20
            have hP9 := hP.sub (ws' := [(f, .inr (2, [.ref f_kinds, .ref f_signs, .ref f_sizes, .ref f_places, .ref f_limits, .ref f_starts, .ref f_sorts, .int f_count, .int f_sections, .int f_fifth])), (f_kinds, .inl (cI, 255, .inl f_15)), (f_signs, .inl (cI, 255, .inl f_signsF)), (f_sizes, .inl (cI, 255, .inl f_sizesF)), (f_places, .inl (cI, 255, .inl f_placesF)), (f_starts, .inl (cI, 4, .inl f_startsF)), (f_sorts, .inl (cI, 4, .inl u_12))]) [5, 0, 1, 2, 3, 4, 6] rfl
            have hD9 := hD.sub (ws' := [(f, .inr (2, [.ref f_kinds, .ref f_signs, .ref f_sizes, .ref f_places, .ref f_limits, .ref f_starts, .ref f_sorts, .int f_count, .int f_sections, .int f_fifth])), (f_kinds, .inl (cI, 255, .inl f_15)), (f_signs, .inl (cI, 255, .inl f_signsF)), (f_sizes, .inl (cI, 255, .inl f_sizesF)), (f_places, .inl (cI, 255, .inl f_placesF)), (f_starts, .inl (cI, 4, .inl f_startsF)), (f_sorts, .inl (cI, 4, .inl u_12))]) [5, 0, 1, 2, 3, 4, 6] (by decide) rfl
            exact W.iret (v := x_20) hx hb hr (fun t ht hW => ⟨⟨x_20, (f_15, u_12), rfl, trivial, by rw [ht]; exact hP9, va_K.moved hW.alike hK, hD9⟩, hS.F ht⟩) hS.2.2 dX5_firstIll_55
        refine lv_icmp_ne (tgt := 39) hx hb dX5_firstIll_26 (by decide) (fun c_22 => ?_) (fun c_22 => ?_)
        · have ic_22 : ¬ ((x_13 : Int32).toInt = (1 : Int32).toInt) := fun h9 => c_22 ((fa_eq x_13 1).mpr h9)
          exact hZ1 (K_39 f_2 _ _ _ hP hD hS hl)
        · have ic_22 : (x_13 : Int32).toInt = (1 : Int32).toInt := (fa_eq x_13 1).mp c_22
          refine lv_aload_n hx hb dX5_firstIll_29 rfl (lv_at hl 1 rfl) ?_
          refine lv_iload_n hx hb dX5_firstIll_30 rfl (lv_at hl 0 rfl) ?_
          have hPc := hP.sub (ws' := [(f, .inr (2, [.ref f_kinds, .ref f_signs, .ref f_sizes, .ref f_places, .ref f_limits, .ref f_starts, .ref f_sorts, .int f_count, .int f_sections, .int f_fifth])), (f_kinds, .inl (cI, 255, .inl f_2)), (f_signs, .inl (cI, 255, .inl f_signsF)), (f_sizes, .inl (cI, 255, .inl f_sizesF)), (f_starts, .inl (cI, 4, .inl f_startsF))]) [5, 0, 1, 2, 4] rfl
          have hDc := hD.sub (ws' := [(f, .inr (2, [.ref f_kinds, .ref f_signs, .ref f_sizes, .ref f_places, .ref f_limits, .ref f_starts, .ref f_sorts, .int f_count, .int f_sections, .int f_fifth])), (f_kinds, .inl (cI, 255, .inl f_2)), (f_signs, .inl (cI, 255, .inl f_signsF)), (f_sizes, .inl (cI, 255, .inl f_sizesF)), (f_starts, .inl (cI, 4, .inl f_startsF))]) [5, 0, 1, 2, 4] (by decide) rfl
          have hFc := va_free (wc := [(f, .inr (2, [.ref f_kinds, .ref f_signs, .ref f_sizes, .ref f_places, .ref f_limits, .ref f_starts, .ref f_sorts, .int f_count, .int f_sections, .int f_fifth])), (f_kinds, .inl (cI, 255, .inl f_2)), (f_signs, .inl (cI, 255, .inl f_signsF)), (f_sizes, .inl (cI, 255, .inl f_sizesF)), (f_starts, .inl (cI, 4, .inl f_startsF))]) hD hS hA [5, 0, 1, 2, 4] rfl
          refine va_callv (va_runS (As := [.ref f, .int x_1]) (rest := []) ⟨hx, hb, hml, hown, hts⟩ (c_X5_markMinutes l D cI cD cJ H.size f f_kinds f_signs f_sizes f_places f_limits f_starts f_sorts f_count f_sections f_fifth f_2 f_signsF f_sizesF f_startsF x_1 (by omega) (by omega) (by omega) (by assumption) (by assumption)) (va_cwS 2 hts (goodIn_app (goodIn_r _ [22, 23, 10] rfl (by decide +kernel)) (goodIn_sub i_X5_markMinutes k_X5_markMinutes)) rfl rfl rfl (by decide +kernel) ⟨Nat.le_of_ble_eq_true rfl, Nat.le_of_ble_eq_true rfl⟩) ⟨fun a U g mk q => by obtain ⟨q0, q1, qP, qK, qD⟩ := q; exact ⟨q0, q1, qP, va_K.moved (u := U) (U := U.calling g mk a) (Vm.Alike.refl U.vm) qK, qD⟩, fun U hU hW => ⟨rfl, by rw [hU], by rw [hU]; exact hPc, va_K.moved hW.alike hK, hDc.weaken (fun _ _ _ _ => trivial)⟩⟩ rfl rfl hl.1 rfl (lv_room (Nat.le_of_ble_eq_true rfl)) dX5_firstIll_31 ⟨Nat.le_of_ble_eq_true rfl, Nat.le_of_ble_eq_true rfl⟩) hS (fun q _ h => hFc q h) hFc (fun u t H1 locs ht hvm w_23 hB hz1 hk1 hS => ?_)
          generalize u = u_24 at w_23 hB
          obtain ⟨hP1, hK1, hD1⟩ := hB
          rw [ht] at hP1
          obtain ⟨hP, hD⟩ := va_join (wr := [(f_places, .inl (cI, 255, .inl f_placesF)), (f_sorts, .inl (cI, 4, .inl u_12))]) (w1 := [(f, .inr (2, [.ref f_kinds, .ref f_signs, .ref f_sizes, .ref f_places, .ref f_limits, .ref f_starts, .ref f_sorts, .int f_count, .int f_sections, .int f_fifth])), (f_kinds, .inl (cI, 255, .inl u_24)), (f_signs, .inl (cI, 255, .inl f_signsF)), (f_sizes, .inl (cI, 255, .inl f_sizesF)), (f_starts, .inl (cI, 4, .inl f_startsF))]) hP hD [5, 0, 1, 2, 4] [3, 6] rfl rfl (by decide) (by decide) hk1 hFc hP1 hD1
          generalize H1 = H at hP hS ⊢
          have hP : va_P D vwCl [(f_places, .inl (cI, 255, .inl f_placesF)), (f_sorts, .inl (cI, 4, .inl u_12)), (f, .inr (2, [.ref f_kinds, .ref f_signs, .ref f_sizes, .ref f_places, .ref f_limits, .ref f_starts, .ref f_sorts, .int f_count, .int f_sections, .int f_fifth])), (f_kinds, .inl (cI, 255, .inl u_24)), (f_signs, .inl (cI, 255, .inl f_signsF)), (f_sizes, .inl (cI, 255, .inl f_sizesF)), (f_starts, .inl (cI, 4, .inl f_startsF))] H := hP
          have hD : va_D A [(f_places, .inl (cI, 255, .inl f_placesF)), (f_sorts, .inl (cI, 4, .inl u_12)), (f, .inr (2, [.ref f_kinds, .ref f_signs, .ref f_sizes, .ref f_places, .ref f_limits, .ref f_starts, .ref f_sorts, .int f_count, .int f_sections, .int f_fifth])), (f_kinds, .inl (cI, 255, .inl u_24)), (f_signs, .inl (cI, 255, .inl f_signsF)), (f_sizes, .inl (cI, 255, .inl f_sizesF)), (f_starts, .inl (cI, 4, .inl f_startsF))] := hD
          refine lv_aload_n hx hb dX5_firstIll_34 rfl (lv_at hl 1 rfl) ?_
          refine lv_iload_n hx hb dX5_firstIll_35 rfl (lv_at hl 0 rfl) ?_
          have hPc := hP.sub (ws' := [(f, .inr (2, [.ref f_kinds, .ref f_signs, .ref f_sizes, .ref f_places, .ref f_limits, .ref f_starts, .ref f_sorts, .int f_count, .int f_sections, .int f_fifth])), (f_kinds, .inl (cI, 255, .inl u_24)), (f_signs, .inl (cI, 255, .inl f_signsF)), (f_starts, .inl (cI, 4, .inl f_startsF))]) [2, 3, 4, 6] rfl
          have hDc := hD.sub (ws' := [(f, .inr (2, [.ref f_kinds, .ref f_signs, .ref f_sizes, .ref f_places, .ref f_limits, .ref f_starts, .ref f_sorts, .int f_count, .int f_sections, .int f_fifth])), (f_kinds, .inl (cI, 255, .inl u_24)), (f_signs, .inl (cI, 255, .inl f_signsF)), (f_starts, .inl (cI, 4, .inl f_startsF))]) [2, 3, 4, 6] (by decide) rfl
          have hFc := va_free (wc := [(f, .inr (2, [.ref f_kinds, .ref f_signs, .ref f_sizes, .ref f_places, .ref f_limits, .ref f_starts, .ref f_sorts, .int f_count, .int f_sections, .int f_fifth])), (f_kinds, .inl (cI, 255, .inl u_24)), (f_signs, .inl (cI, 255, .inl f_signsF)), (f_starts, .inl (cI, 4, .inl f_startsF))]) hD hS hA [2, 3, 4, 6] rfl
          refine va_callv (va_runS (As := [.ref f, .int x_1]) (rest := []) ⟨hx, hb, hml, hown, hts⟩ (c_X5_markTenths l D cI cD cJ H.size f f_kinds f_signs f_sizes f_places f_limits f_starts f_sorts f_count f_sections f_fifth u_24 f_signsF f_startsF x_1 (by omega) (by omega) (by omega) (by assumption)) (va_cwS 2 hts (goodIn_app (goodIn_r _ [24, 25, 10] rfl (by decide +kernel)) (goodIn_sub i_X5_markTenths k_X5_markTenths)) rfl rfl rfl (by decide +kernel) ⟨Nat.le_of_ble_eq_true rfl, Nat.le_of_ble_eq_true rfl⟩) ⟨fun a U g mk q => by obtain ⟨q0, q1, qP, qK, qD⟩ := q; exact ⟨q0, q1, qP, va_K.moved (u := U) (U := U.calling g mk a) (Vm.Alike.refl U.vm) qK, qD⟩, fun U hU hW => ⟨rfl, by rw [hU], by rw [hU]; exact hPc, va_K.moved hW.alike hK, hDc.weaken (fun _ _ _ _ => trivial)⟩⟩ rfl rfl hl.1 rfl (lv_room (Nat.le_of_ble_eq_true rfl)) dX5_firstIll_36 ⟨Nat.le_of_ble_eq_true rfl, Nat.le_of_ble_eq_true rfl⟩) hS (fun q _ h => hFc q h) hFc (fun u t H1 locs ht hvm w_25 hB hz1 hk1 hS => ?_)
          generalize u = u_26 at w_25 hB
          obtain ⟨hP1, hK1, hD1⟩ := hB
          rw [ht] at hP1
          obtain ⟨hP, hD⟩ := va_join (wr := [(f_places, .inl (cI, 255, .inl f_placesF)), (f_sorts, .inl (cI, 4, .inl u_12)), (f_sizes, .inl (cI, 255, .inl f_sizesF))]) (w1 := [(f, .inr (2, [.ref f_kinds, .ref f_signs, .ref f_sizes, .ref f_places, .ref f_limits, .ref f_starts, .ref f_sorts, .int f_count, .int f_sections, .int f_fifth])), (f_kinds, .inl (cI, 255, .inl u_26)), (f_signs, .inl (cI, 255, .inl f_signsF)), (f_starts, .inl (cI, 4, .inl f_startsF))]) hP hD [2, 3, 4, 6] [0, 1, 5] rfl rfl (by decide) (by decide) hk1 hFc hP1 hD1
          generalize H1 = H at hP hS ⊢
          have hP : va_P D vwCl [(f_places, .inl (cI, 255, .inl f_placesF)), (f_sorts, .inl (cI, 4, .inl u_12)), (f_sizes, .inl (cI, 255, .inl f_sizesF)), (f, .inr (2, [.ref f_kinds, .ref f_signs, .ref f_sizes, .ref f_places, .ref f_limits, .ref f_starts, .ref f_sorts, .int f_count, .int f_sections, .int f_fifth])), (f_kinds, .inl (cI, 255, .inl u_26)), (f_signs, .inl (cI, 255, .inl f_signsF)), (f_starts, .inl (cI, 4, .inl f_startsF))] H := hP
          have hD : va_D A [(f_places, .inl (cI, 255, .inl f_placesF)), (f_sorts, .inl (cI, 4, .inl u_12)), (f_sizes, .inl (cI, 255, .inl f_sizesF)), (f, .inr (2, [.ref f_kinds, .ref f_signs, .ref f_sizes, .ref f_places, .ref f_limits, .ref f_starts, .ref f_sorts, .int f_count, .int f_sections, .int f_fifth])), (f_kinds, .inl (cI, 255, .inl u_26)), (f_signs, .inl (cI, 255, .inl f_signsF)), (f_starts, .inl (cI, 4, .inl f_startsF))] := hD
          exact hZ1 (K_39 u_26 _ _ _ (hP.sub [4, 5, 2, 0, 6, 3, 1] rfl) (hD.sub [4, 5, 2, 0, 6, 3, 1] (by decide) rfl) hS hl)
  exact hZ1 (L_2 (((2147483647 - (0 : Int32).toInt).toNat) + 1) 0 f_kindsF f_sortsF _ _ _ (by omega) (by omega) hP hD hS hl)

